import java.util.ArrayList;
import java.util.HashSet;
import java.util.List;
import java.util.Set;

/**
 * Every call with every row of arguments at and beside its bounds, in states at and beside theirs:
 * of several refusals the one that the document tells first is answered, and nothing is changed;
 * what it does not refuse is taken. The rules stand here once more, in the document's order.
 */
public final class RefusalsTest {
  private static final int UNKNOWN = Kit.UNKNOWN, BAD = Kit.BAD, LATE = Kit.LATE;
  private static final int FULL = Kit.FULL, NONE = Kit.NONE;
  private static final int TAKEN = 0;

  private static final long[] MAPS = ends(0, 1);
  private static final long[] KEYS = {Kit.MIN, -1, 0, 1, 2, 41, 78, 79, 98, 99, 100, Kit.MAX};
  private static final long[] FEW_KEYS = {-1, 0, 1, 3, 99, 100};

  public static void main(String[] args) {
    Kit.Scene[] scenes = {Kit.NOTHING, Kit.BUSY, Kit.ENDS, Kit.OF_38, Kit.OF_39, Kit.FULL_0,
        Kit.FULL_1, Kit.BOTH_FULL, RefusalsTest::allFull, RefusalsTest::faulty};
    for (Kit.Scene scene : scenes) {
      State state = new State(scene);
      all(state, "write", ends(0, 255));
      all(state, "shape", MAPS);
      all(state, "put", MAPS, KEYS, ends(0, 999999));
      all(state, "remove", MAPS, KEYS);
      all(state, "cut", MAPS, KEYS, KEYS);
      all(state, "undo");
      all(state, "about", MAPS, ends(0, 5));
      all(state, "item", MAPS, new long[] {Kit.MIN, -1, 0, 2, 3, 8, 9, 37, 38, 39, 40, Kit.MAX},
          ends(0, 2));
      all(state, "get", MAPS, KEYS);
      all(state, "span", MAPS, KEYS, new long[] {Kit.MIN, -1, 0, 1, 2, 3, Kit.MAX});
      all(state, "rank", MAPS, KEYS);
      all(state, "near", MAPS, KEYS, ends(0, 1));
      all(state, "looks", MAPS, KEYS);
      all(state, "sum", MAPS, KEYS, KEYS);
      all(state, "would", MAPS, KEYS, ends(0, 2));
      all(state, "best", MAPS, ends(0, 1));
      judged(state);
      flagged(state, "share", MAPS, ends(0, 3), new long[] {0, 1});
      all(state, "seek", MAPS, ends(0, 20), ends(0, 1));
      all(state, "unseek");
      all(state, "keys", ends(0, 1));
      all(state, "rests", MAPS, FEW_KEYS, FEW_KEYS, ends(0, 1));
      flagged(state, "lost", MAPS, ends(0, 9), ends(0, 10), new long[] {0, 1});
      all(state, "rounds", MAPS, ends(1, 30));
      all(state, "keep", ends(0, 1));
      all(state, "again", ends(0, 1));
      all(state, "count", ends(0, 2));
    }
    Kit.end("RefusalsTest");
  }

  /** The text, what is sought and the acts have no room left. */
  private static void allFull(Kit.Run run) {
    Kit.FULL_1.play(run);
    while (run.call("seek", 0, 20, 0) != FULL) {
      run.call("count", 1);
    }
    while (run.call("write", (int) '9') != FULL) {
      run.call("count", 2);
    }
  }

  /** A text that can be no shape, nothing kept. */
  private static void faulty(Kit.Run run) {
    run.tell("L0102");
    run.put(1, 0, 2, 41);
  }

  private static long[] ends(int low, int high) {
    return new long[] {Kit.MIN, low - 1, low, high, high + 1, Kit.MAX};
  }

  // ---------------------------------------------------------------- a state and its rules

  /** What a scene is like, as far as a refusal hangs on it. */
  private static final class State {
    final Kit.Scene scene;
    final String view;
    final List<Set<Long>> keys = new ArrayList<>();
    final boolean[] kept = new boolean[2];
    final long acts;
    final long sought;
    final long letters;
    final boolean faulty;

    State(Kit.Scene scene) {
      this.scene = scene;
      view = new Kit.Run(scene).hear(Kit.VIEW);
      Kit.Run run = new Kit.Run(scene);
      for (int map = 0; map < 2; map++) {
        Set<Long> there = new HashSet<>();
        for (String key : run.keys(map).split(" ")) {
          if (!key.isEmpty()) {
            there.add(Long.valueOf(key));
          }
        }
        keys.add(there);
        kept[map] = new Kit.Run(scene).call("again", map) != LATE;
      }
      acts = run.call("count", 0);
      sought = run.call("count", 1);
      letters = run.call("count", 2);
      faulty = run.call("fault") != NONE;
    }

    boolean has(long map, long key) {
      return keys.get((int) map).contains(key);
    }

    int size(long map) {
      return keys.get((int) map).size();
    }

    int together(long map, long a, long b) {
      Set<Long> all = new HashSet<>(keys.get(1 - (int) map));
      for (long key : keys.get((int) map)) {
        if (key >= a && key <= b) {
          all.add(key);
        }
      }
      return all.size();
    }

    long height(long map, long key) {
      Kit.Run run = new Kit.Run(scene);
      long i = run.call("rank", (int) map, (int) key);
      return run.call("item", (int) map, (int) i, 2);
    }
  }

  private static boolean out(long value, long low, long high) {
    return value < low || value > high;
  }

  private static boolean noMap(long map) {
    return out(map, 0, 1);
  }

  private static boolean noKey(long key) {
    return out(key, 0, 99);
  }

  private static int refusal(State s, String name, long... a) {
    switch (name) {
      case "write":
        return out(a[0], 0, 255) ? BAD : s.letters == 64 ? FULL : TAKEN;
      case "shape":
        return noMap(a[0]) ? UNKNOWN : s.faulty ? LATE : TAKEN;
      case "undo":
        return s.acts == 0 ? LATE : TAKEN;
      case "unseek":
        return TAKEN;
      case "keys":
        return out(a[0], 0, 1) ? BAD : TAKEN;
      case "count":
        return out(a[0], 0, 2) ? BAD : TAKEN;
      case "keep":
        return out(a[0], 0, 1) ? UNKNOWN : TAKEN;
      case "again":
        return out(a[0], 0, 1) ? UNKNOWN : s.kept[(int) a[0]] ? TAKEN : LATE;
      default:
        return noMap(a[0]) ? UNKNOWN : refusalOfMap(s, name, a);
    }
  }

  /** Of those calls whose first argument is a map that there is. */
  private static int refusalOfMap(State s, String name, long... a) {
    switch (name) {
      case "about":
        return out(a[1], 0, 5) ? BAD : TAKEN;
      case "item":
        return out(a[1], 0, s.size(a[0]) - 1) ? UNKNOWN : out(a[2], 0, 2) ? BAD : TAKEN;
      case "best":
        return out(a[1], 0, 1) ? BAD : TAKEN;
      case "share":
        return out(a[1], 0, Math.min(s.size(a[0]), 4) - 1) ? UNKNOWN : TAKEN;
      case "seek":
        return out(a[1], 0, 20) || out(a[2], 0, 1) ? BAD : s.sought == 6 ? FULL : TAKEN;
      case "lost":
        return out(a[1], 0, 9) || out(a[2], 0, 10) ? BAD : TAKEN;
      case "rounds":
        return out(a[1], 1, 30) ? BAD : TAKEN;
      default:
        return noKey(a[1]) ? UNKNOWN : refusalOfKey(s, name, a);
    }
  }

  /** Of those calls whose second argument is a key, which there is too. */
  private static int refusalOfKey(State s, String name, long... a) {
    boolean isThere = s.has(a[0], a[1]);
    boolean isFull = !isThere && s.size(a[0]) == 40;
    switch (name) {
      case "put":
        return out(a[2], 0, 999999) ? BAD : isFull ? FULL : TAKEN;
      case "remove":
        return isThere ? TAKEN : LATE;
      case "get":
      case "rank":
      case "looks":
        return TAKEN;
      case "span":
        return !isThere ? LATE : out(a[2], 0, s.height(a[0], a[1])) ? BAD : TAKEN;
      case "near":
        return out(a[2], 0, 1) ? BAD : TAKEN;
      case "would":
        return out(a[2], 0, 2) ? BAD : isFull ? FULL : TAKEN;
      default:
        return noKey(a[2]) ? UNKNOWN : refusalOfKeys(s, name, a);
    }
  }

  /** Of those calls whose second and third arguments are keys. */
  private static int refusalOfKeys(State s, String name, long... a) {
    switch (name) {
      case "cut":
        return a[1] > a[2] ? BAD : s.together(a[0], a[1], a[2]) > 40 ? FULL : TAKEN;
      case "sum":
        return a[1] > a[2] ? BAD : TAKEN;
      case "rests":
        return a[1] == a[2] || out(a[3], 0, 1) ? BAD
            : s.has(a[0], a[1]) || s.has(a[0], a[2]) ? LATE
            : s.size(a[0]) >= 39 ? FULL : TAKEN;
      default:
        throw new IllegalStateException(name);
    }
  }

  // ---------------------------------------------------------------- all rows of arguments

  private static void all(State state, String name, long[]... choices) {
    rows(state, name, false, new long[choices.length], 0, choices);
  }

  /** As above; the last argument says whether what stands above is asked for. */
  private static void flagged(State state, String name, long[]... choices) {
    rows(state, name, true, new long[choices.length], 0, choices);
  }

  private static void rows(State state, String name, boolean flag, long[] row, int at,
      long[]... choices) {
    if (at < choices.length) {
      for (long choice : choices[at]) {
        row[at] = choice;
        rows(state, name, flag, row, at + 1, choices);
      }
      return;
    }
    Object[] args = new Object[row.length];
    for (int i = 0; i < row.length; i++) {
      args[i] = (int) row[i];
    }
    if (flag) {
      args[row.length - 1] = row[row.length - 1] == 1;
    }
    check(state, refusal(state, name, row), name, args);
  }

  private static void check(State state, int want, String name, Object... args) {
    Kit.under(name);
    Kit.Run run = new Kit.Run(state.scene);
    long got = run.call(name, args);
    if (want == TAKEN ? Kit.isRefusal(got) && !name.equals("share") : got != want) {
      Kit.fail(Kit.told(name, args) + " answered " + got + ", due is "
          + (want == TAKEN ? "no refusal" : String.valueOf(want)));
    }
    if (want != TAKEN && !run.hear(Kit.VIEW).equals(state.view)) {
      Kit.fail(Kit.told(name, args) + " was refused, but has changed something");
    }
  }

  private static void judged(State state) {
    for (long n : ends(1, 4)) {
      for (long row : new long[] {Long.MIN_VALUE, -1, 0, 9999, 10000, 99999999L, 100000000L,
          999999999999L, 1000000000000L, 9999999999999999L, 10000000000000000L, Long.MAX_VALUE}) {
        boolean bad = out(n, 1, 4) || row < 0 || String.valueOf(row).length() > 4 * n;
        check(state, bad ? BAD : TAKEN, "judge", (int) n, row);
      }
    }
  }
}
