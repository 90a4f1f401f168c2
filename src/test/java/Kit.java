import java.lang.reflect.InvocationTargetException;
import java.lang.reflect.Method;
import java.util.ArrayList;
import java.util.Arrays;
import java.util.HashMap;
import java.util.List;
import java.util.Map;
import java.util.TreeMap;

/** What the tests of the bounds share: counted calls, scenes, and what must hold of a refusal. */
final class Kit {
  static final int UNKNOWN = -1, BAD = -2, LATE = -3, FULL = -4, NONE = -9;
  static final int MIN = Integer.MIN_VALUE, MAX = Integer.MAX_VALUE;
  /** The document promises nothing of an object beyond so many calls. */
  static final int CALLS = 512;
  /** Three items, told as heights, steps and values: keys 1, 4, 5 with values 1, 2, 0. */
  static final String SHAPE = "L011132010";

  /** The calls in the order of the promises, of which the first one is the new object. */
  private static final String[] PROMISED = {
    "new", "write", "wipe", "fault", "shape", "put", "remove", "cut", "undo", "about", "item",
    "get", "span", "rank", "near", "looks", "sum", "would", "best", "judge", "share", "seek",
    "unseek", "keys", "rests", "lost", "seed", "rounds", "keep", "again", "count"
  };
  private static final Map<String, Method> METHODS = new HashMap<>();
  private static final Map<Scene, String> TALES = new HashMap<>();
  private static int wrong = 0;
  private static String current = "";

  static {
    for (Method m : ThreeGaps.class.getDeclaredMethods()) {
      METHODS.put(m.getName(), m);
    }
  }

  private Kit() {}

  /** Calls that bring a new object into a state. */
  interface Scene {
    void play(Run run);
  }

  /** One object, with its calls counted and, from a moment on, their answers written down. */
  static final class Run {
    final ThreeGaps x = new ThreeGaps();
    private StringBuilder heard = null;
    private int calls = 0;

    Run() {}

    Run(Scene scene) {
      scene.play(this);
    }

    long call(String name, Object... args) {
      calls++;
      if (calls > CALLS) {
        throw new IllegalStateException("the test calls one object too often");
      }
      try {
        long answer = ((Number) METHODS.get(name).invoke(x, args)).longValue();
        if (heard != null) {
          heard.append(answer).append(' ');
        }
        return answer;
      } catch (InvocationTargetException e) {
        throw new IllegalStateException(told(name, args) + " threw " + e.getCause(), e);
      } catch (IllegalAccessException e) {
        throw new IllegalStateException(e);
      }
    }

    int callsLeft() {
      return CALLS - calls;
    }

    String hear(Scene probe) {
      heard = new StringBuilder();
      probe.play(this);
      return heard.append('\n').toString();
    }

    void tell(String text) {
      for (int i = 0; i < text.length(); i++) {
        call("write", (int) text.charAt(i));
      }
    }

    /** Puts keys, each with ten times itself as its value. */
    void put(int map, int... keys) {
      for (int key : keys) {
        call("put", map, key, 10 * key);
      }
    }

    void shape(int map, String heights) {
      call("wipe");
      tell(text(heights));
      call("shape", map);
    }

    String row(int map, int what) {
      StringBuilder s = new StringBuilder();
      long size = call("about", map, 0);
      for (int i = 0; i < size; i++) {
        s.append(i == 0 ? "" : " ").append(call("item", map, i, what));
      }
      return s.toString();
    }

    String keys(int map) {
      return row(map, 0);
    }

    String heights(int map) {
      return row(map, 2).replace(" ", "");
    }
  }

  // ---------------------------------------------------------------- scenes

  static final Scene NOTHING = run -> { };

  /** Some of all: items in both maps, 14 acts, a shape as the text, two sought, a seed, slots. */
  static final Scene BUSY = run -> {
    dress(run);
    run.put(0, 10, 20, 30, 40, 50, 60, 70, 80, 90);
    run.call("keep", 1);
    run.put(1, 5, 45, 60);
    run.call("remove", 0, 10);
    run.put(0, 10);
  };

  /** As busy, and the least and the greatest key are there in both maps. */
  static final Scene ENDS = run -> {
    BUSY.play(run);
    run.put(0, 0, 99);
    run.put(1, 0, 99);
  };

  static final Scene FULL_0 = run -> fill(run, 0, 40);
  static final Scene FULL_1 = run -> fill(run, 1, 40);
  static final Scene OF_39 = run -> fill(run, 0, 39);
  static final Scene OF_38 = run -> fill(run, 0, 38);

  static final Scene BOTH_FULL = run -> {
    dress(run);
    run.put(0, evens(40));
    run.put(1, evens(40));
    run.call("keep", 1);
  };

  /** So many even keys in one map, 1 and 99 in the other one. */
  private static void fill(Run run, int map, int items) {
    dress(run);
    run.put(1 - map, 1, 99);
    run.call("keep", 1);
    run.put(map, evens(items));
  }

  private static void dress(Run run) {
    run.put(0, 7);
    run.call("keep", 0);
    run.call("remove", 0, 7);
    run.tell(SHAPE);
    run.call("seek", 0, 4, 1);
    run.call("seek", 1, 2, 0);
    run.call("seed", 77L);
  }

  /** 0, 2, 4 .. */
  static int[] evens(int n) {
    int[] keys = new int[n];
    for (int i = 0; i < n; i++) {
      keys[i] = 2 * i;
    }
    return keys;
  }

  /** A text of items of such heights, with keys 2, 4, 6 .. and values 0. */
  static String text(String heights) {
    StringBuilder s = new StringBuilder("L");
    for (int i = 0; i < heights.length(); i++) {
      s.append(heights.charAt(i)).append("20");
    }
    return s.toString();
  }

  static Scene shaped(int map, String heights) {
    return run -> run.shape(map, heights);
  }

  static Scene then(Scene first, Scene second) {
    return run -> {
      first.play(run);
      second.play(run);
    };
  }

  // ---------------------------------------------------------------- all that an object holds

  static final Scene VIEW = Kit::view;

  private static void view(Run run) {
    for (int map = 0; map < 2; map++) {
      for (int what = 0; what < 6; what++) {
        run.call("about", map, what);
      }
      for (int what = 0; what < 3; what++) {
        run.row(map, what);
      }
    }
    for (int what = 0; what < 3; what++) {
      run.call("count", what);
    }
    run.call("fault");
    run.call("keys", 0);
    run.call("keys", 1);
    run.call("seed", run.call("seed", 0L));
  }

  private static List<Scene> probes() {
    List<Scene> all = new ArrayList<>();
    for (int undone = 0; undone <= 15; undone++) {
      int times = undone;
      all.add(run -> {
        for (int i = 0; i < times; i++) {
          run.call("undo");
        }
        view(run);
      });
    }
    for (int which = 0; which < 2; which++) {
      int n = which;
      all.add(run -> {
        run.call("again", n);
        view(run);
      });
      all.add(run -> {
        run.call("shape", n);
        view(run);
        run.call("rounds", n, 30);
      });
    }
    all.add(run -> {
      for (int i = 0; i < 7; i++) {
        run.call("seek", 0, 0, 0);
      }
      run.call("unseek");
      run.tell("0100");
      run.call("fault");
      run.call("wipe");
    });
    return all;
  }

  /** Each part on an object of its own, so that none is called too often. */
  static String tale(Scene scene) {
    StringBuilder s = new StringBuilder();
    for (Scene probe : probes()) {
      s.append(new Run(scene).hear(probe));
    }
    return s.toString();
  }

  private static String taleOf(Scene scene) {
    return TALES.computeIfAbsent(scene, Kit::tale);
  }

  // ---------------------------------------------------------------- what is due

  static void due(String what, long got, long want) {
    if (got != want) {
      fail(what + " answered " + got + ", due is " + want);
    }
  }

  static void dueText(String what, String got, String want) {
    if (!got.equals(want)) {
      fail(what + " is " + got + ", due is " + want);
    }
  }

  /** What fails from here on is told under the promise of that call. */
  static void under(String call) {
    current = "promise " + (Arrays.asList(PROMISED).indexOf(call) + 1) + ", " + call;
  }

  static void fail(String what) {
    wrong++;
    System.out.println(current + ": " + what);
  }

  static String told(String name, Object... args) {
    String s = Arrays.toString(args);
    return name + "(" + s.substring(1, s.length() - 1) + ")";
  }

  static boolean isRefusal(long answer) {
    return answer >= FULL && answer <= UNKNOWN;
  }

  /** In a scene a call answers so. */
  static void taken(Scene scene, long want, String name, Object... args) {
    due(told(name, args), new Run(scene).call(name, args), want);
  }

  /** In a scene a call is not refused. */
  static void taken(Scene scene, String name, Object... args) {
    long got = new Run(scene).call(name, args);
    if (isRefusal(got)) {
      fail(told(name, args) + " answered " + got + ", but is to be taken");
    }
  }

  /** In a scene a call is refused so, and has changed nothing. */
  static void refused(Scene scene, long want, String name, Object... args) {
    due(told(name, args), new Run(scene).call(name, args), want);
    unchanged(scene, name, args);
  }

  /** In a scene a call answers so, and has changed nothing. */
  static void quiet(Scene scene, long want, String name, Object... args) {
    refused(scene, want, name, args);
  }

  static void unchanged(Scene scene, String name, Object... args) {
    if (!tale(then(scene, run -> run.call(name, args))).equals(taleOf(scene))) {
      fail(told(name, args) + " has changed something");
    }
  }

  /** One argument may be low .. high: both ends are taken, what lies outside is refused. */
  static void bounds(Scene scene, long refusal, int at, int low, int high, String name,
      Object... args) {
    taken(scene, name, with(args, at, low));
    taken(scene, name, with(args, at, high));
    refused(scene, refusal, name, with(args, at, low - 1));
    refused(scene, refusal, name, with(args, at, high + 1));
    refused(scene, refusal, name, with(args, at, MIN));
    refused(scene, refusal, name, with(args, at, MAX));
  }

  /** The first argument is a map: 0 and 1 there are. */
  static void mapBounds(Scene scene, String name, Object... args) {
    bounds(scene, UNKNOWN, 0, 0, 1, name, args);
  }

  /** The argument at a place is a key: 0 .. 99 there are. */
  static void keyBounds(Scene scene, int at, String name, Object... args) {
    bounds(scene, UNKNOWN, at, 0, 99, name, args);
  }

  static Object[] with(Object[] args, int at, Object value) {
    Object[] copy = args.clone();
    copy[at] = value;
    return copy;
  }

  // ---------------------------------------------------------------- the cases of a test

  /** Plays each method named pNN.. of a test; each promise from .. to must have one. */
  static void play(Class<?> test, int from, int to) {
    Map<String, Method> cases = new TreeMap<>();
    for (Method m : test.getDeclaredMethods()) {
      if (m.getName().matches("p\\d\\d.*")) {
        m.setAccessible(true);
        cases.put(m.getName(), m);
      }
    }
    boolean[] seen = new boolean[100];
    for (Map.Entry<String, Method> e : cases.entrySet()) {
      int promise = Integer.parseInt(e.getKey().substring(1, 3));
      seen[promise] = true;
      current = "promise " + promise + ", " + e.getKey().substring(3);
      playOne(e.getValue());
    }
    for (int promise = from; promise <= to; promise++) {
      if (!seen[promise]) {
        fail("no case of promise " + promise);
      }
    }
    end(test.getSimpleName() + " (" + cases.size() + " cases)");
  }

  private static void playOne(Method m) {
    try {
      m.invoke(null);
    } catch (InvocationTargetException e) {
      fail("broke off: " + e.getCause());
    } catch (IllegalAccessException e) {
      fail("can't be played: " + e);
    }
  }

  static void end(String test) {
    System.out.println(wrong == 0 ? test + ": all as due" : test + ": wrong " + wrong);
    if (wrong != 0) {
      System.exit(1);
    }
  }
}
