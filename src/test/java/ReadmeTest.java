import java.io.IOException;
import java.lang.reflect.Method;
import java.nio.file.Files;
import java.nio.file.Path;
import java.util.Set;
import java.util.TreeSet;
import java.util.regex.Matcher;
import java.util.regex.Pattern;

/** README.md is no promise, but who follows it must get the answers that it tells. */
public final class ReadmeTest {
  private static final Pattern CALL =
      Pattern.compile("maps\\.(\\w+)\\(([^)]*)\\); +// (-?\\d+)(?!\\w).*");
  private static final int CALLS = 31 - 1;
  private static int wrong = 0;

  public static void main(String[] args) throws Exception {
    ThreeGaps maps = new ThreeGaps();
    Set<String> called = new TreeSet<>();
    for (String line : example()) {
      Matcher m = CALL.matcher(line);
      if (m.matches()) {
        called.add(m.group(1));
        due(line, answer(maps, m.group(1), m.group(2)), Long.parseLong(m.group(3)));
      } else if (line.startsWith("maps.")) {
        due(line + " (tells no answer)", 0, 1);
      }
    }
    due("different calls in README.md", called.size(), CALLS);
    System.out.println("ReadmeTest: " + (wrong == 0 ? "all as due" : wrong + " wrong"));
    if (wrong != 0) {
      System.exit(1);
    }
  }

  private static String[] example() throws IOException {
    String all = Files.readString(Path.of("README.md"));
    int from = all.indexOf("```java");
    int to = all.indexOf("```", from + 1);
    return from < 0 || to < 0 ? new String[0] : all.substring(from, to).split("\n");
  }

  private static long answer(ThreeGaps maps, String name, String told) throws Exception {
    String[] words = told.isEmpty() ? new String[0] : told.split(", *");
    for (Method method : ThreeGaps.class.getDeclaredMethods()) {
      Class<?>[] types = method.getParameterTypes();
      if (method.getName().equals(name) && types.length == words.length) {
        Object[] values = new Object[words.length];
        for (int i = 0; i < words.length; i++) {
          values[i] = value(types[i], words[i]);
        }
        return ((Number) method.invoke(maps, values)).longValue();
      }
    }
    throw new IllegalStateException("no such call: " + name + "(" + told + ")");
  }

  private static Object value(Class<?> type, String word) {
    if (type == boolean.class) {
      return word.equals("true");
    }
    if (type == long.class) {
      return Long.parseLong(word.replace("L", ""));
    }
    return word.startsWith("'") ? (int) word.charAt(1) : Integer.parseInt(word);
  }

  private static void due(String what, long got, long want) {
    if (got != want) {
      wrong++;
      System.out.println(what + ": " + got + ", due is " + want);
    }
  }
}
