import java.lang.management.ManagementFactory;
import java.lang.reflect.Constructor;
import java.lang.reflect.Field;
import java.lang.reflect.Method;
import java.lang.reflect.Modifier;
import java.nio.file.Files;
import java.nio.file.Path;
import java.util.ArrayList;
import java.util.List;
import java.util.Set;
import java.util.TreeSet;

/** The face is the document's and no more, the source keeps to the rules, calls make nothing. */
public final class FaceTest {
  private static final Path SOURCE = Path.of("src/main/java/ThreeGaps.java");
  private static final String[] METHODS = {
    "int write(int)", "int wipe()", "int fault()", "int shape(int)", "int put(int,int,int)",
    "int remove(int,int)", "int cut(int,int,int)", "int undo()", "int about(int,int)",
    "int item(int,int,int)", "int get(int,int)", "int span(int,int,int)", "int rank(int,int)",
    "int near(int,int,int)", "int looks(int,int)", "int sum(int,int,int)", "int would(int,int,int)",
    "int best(int,int)", "int judge(int,long)", "int share(int,int,boolean)",
    "int seek(int,int,int)", "int unseek()", "int keys(int)", "int rests(int,int,int,int)",
    "int lost(int,int,int,boolean)", "long seed(long)", "int rounds(int,int)", "int keep(int)",
    "int again(int)", "int count(int)"
  };
  private static int wrong = 0;

  public static void main(String[] args) throws Exception {
    face();
    inside();
    source();
    room();
    System.out.println(wrong == 0 ? "FaceTest: all as due" : "FaceTest: wrong " + wrong);
    if (wrong != 0) {
      System.exit(1);
    }
  }

  private static void must(boolean fine, String what) {
    if (!fine) {
      wrong++;
      System.out.println("not so: " + what);
    }
  }

  private static String signature(Method m) {
    StringBuilder s = new StringBuilder(m.getReturnType().getSimpleName() + " " + m.getName() + "(");
    for (Class<?> p : m.getParameterTypes()) {
      s.append(s.charAt(s.length() - 1) == '(' ? "" : ",").append(p.getSimpleName());
    }
    return s.append(")").toString();
  }

  private static void face() {
    Class<?> c = ThreeGaps.class;
    must(Modifier.isPublic(c.getModifiers()) && Modifier.isFinal(c.getModifiers()), "public, final");
    Set<String> seen = new TreeSet<>();
    for (Method m : c.getDeclaredMethods()) {
      if (Modifier.isPublic(m.getModifiers())) {
        seen.add(signature(m));
      } else {
        must(Modifier.isPrivate(m.getModifiers()), m + " is private");
      }
    }
    must(seen.equals(new TreeSet<>(List.of(METHODS))), "the methods are the document's: " + seen);
    Constructor<?>[] made = c.getDeclaredConstructors();
    must(made.length == 1 && made[0].getParameterCount() == 0
        && Modifier.isPublic(made[0].getModifiers()), "one public constructor");
    Set<String> constants = new TreeSet<>();
    for (Field f : c.getDeclaredFields()) {
      if (!Modifier.isPrivate(f.getModifiers())) {
        constants.add(Modifier.toString(f.getModifiers()) + " " + f.getName());
      }
    }
    must(constants.toString().equals("[public static final BAD, public static final FULL, "
        + "public static final LATE, public static final NONE, public static final UNKNOWN]"),
        "the constants are the document's: " + constants);
  }

  private static void inside() {
    Set<String> open = new TreeSet<>();
    for (String m : METHODS) {
      open.add(m.substring(m.indexOf(' ') + 1, m.indexOf('(')));
    }
    List<Class<?>> all = new ArrayList<>(List.of(ThreeGaps.class.getDeclaredClasses()));
    must(all.size() <= 11, "twelve classes at most");
    for (Class<?> c : all) {
      must(Modifier.isStatic(c.getModifiers()) && !Modifier.isPublic(c.getModifiers())
          && !Modifier.isProtected(c.getModifiers()), c + " is static, not public");
      must(c.getDeclaredClasses().length == 0, c + " has no classes");
      for (Method m : c.getDeclaredMethods()) {
        must(!open.contains(m.getName()), m + " bears no name of the face");
      }
    }
    all.add(ThreeGaps.class);
    for (Class<?> c : all) {
      for (Field f : c.getDeclaredFields()) {
        must(!Modifier.isStatic(f.getModifiers()) || Modifier.isFinal(f.getModifiers()),
            f + " is final");
      }
      for (Method m : c.getDeclaredMethods()) {
        must(m.getParameterCount() <= 7, m + " has seven parameters at most");
        must(Modifier.isPublic(m.getModifiers()) || !open.contains(m.getName()),
            m + " bears no name of the face");
      }
    }
  }

  private static void source() throws Exception {
    List<String> lines = Files.readAllLines(SOURCE);
    for (int i = 0; i < lines.size(); i++) {
      String line = lines.get(i);
      String code = line.replaceFirst("^\\s*(//|/\\*\\*|\\*).*", "").replaceFirst("//.*", "");
      must(line.chars().allMatch(c -> c < 128), "plain letters in line " + (i + 1));
      must(!code.matches(".*\\b(throw|throws|try|catch|synchronized|assert|package|import)\\b.*"),
          "no such word in line " + (i + 1));
      must(!code.contains("->") && !code.contains("::"), "no lambda in line " + (i + 1));
      must(!code.matches(".*\\w+Exact\\(.*"), "no Exact in line " + (i + 1));
      must(!code.contains("System.") || code.contains("System.arraycopy"), "library " + (i + 1));
      if (code.matches("  (  )?\\w.*\\) \\{") && !code.matches("\\s*(if|for|while|switch)\\b.*")) {
        must(lengthFrom(lines, i) <= 60, "the method in line " + (i + 1) + " is short");
      }
    }
  }

  /** How many lines until the brace that stands under the first letter of a line. */
  private static int lengthFrom(List<String> lines, int from) {
    String line = lines.get(from);
    String end = line.substring(0, line.length() - line.stripLeading().length()) + "}";
    int to = from;
    while (to < lines.size() && !lines.get(to).equals(end)) {
      to++;
    }
    return to - from + 1;
  }

  private static void allCalls(ThreeGaps x, int i) {
    int key = i * 37 % 100;
    x.wipe();
    for (char c : new char[] {'L', '0', '1', '0', '1', '1', '0', '0', '1', '0'}) {
      x.write(c);
    }
    x.fault();
    x.put(0, key, i);
    x.put(1, 99 - key, i);
    x.remove(0, (key + 50) % 100);
    x.cut(i % 2, 40, 60);
    x.shape(i % 9 == 0 ? 1 : 2);
    x.undo();
    x.about(0, 5);
    x.item(0, 0, 2);
    x.get(0, key);
    x.span(0, key, 0);
    x.rank(0, key);
    x.near(0, key, 1);
    x.looks(0, key);
    x.sum(0, 0, 99);
    x.would(0, key, 0);
    x.best(0, 0);
    x.judge(4, 1045204530471000L);
    x.share(0, 0, true);
    x.seek(0, 2, 1);
    x.keys(0);
    x.unseek();
    x.rests(0, 1, 2, 0);
    x.lost(0, 1, 3, true);
    x.seed(i);
    x.rounds(0, 30);
    x.keep(0);
    x.again(0);
    x.count(0);
  }

  // The room of one run holds some 600,000 objects: only the constructor makes any.
  private static void room() {
    com.sun.management.ThreadMXBean bean =
        (com.sun.management.ThreadMXBean) ManagementFactory.getThreadMXBean();
    ThreeGaps x = new ThreeGaps();
    for (int i = 0; i < 300; i++) {
      allCalls(x, i);
    }
    long id = Thread.currentThread().getId();
    long before = bean.getThreadAllocatedBytes(id);
    for (int i = 0; i < 1000; i++) {
      allCalls(x, i);
    }
    long made = bean.getThreadAllocatedBytes(id) - before;
    // the one small array of letters above, a thousand times, and some slack
    must(made < 100_000, "calls make nothing, yet there came " + made + " bytes");
  }
}
