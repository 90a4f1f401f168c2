/** The bounds of what is looked at, promises 10 to 17, each as a case of its own. */
public final class BoundsLooksTest {
  private static final int UNKNOWN = Kit.UNKNOWN, BAD = Kit.BAD, LATE = Kit.LATE;
  private static final int NONE = Kit.NONE;
  private static final int[] NO_MAPS = {-1, 2, Kit.MIN, Kit.MAX};
  private static final int[] NO_KEYS = {-1, 100, Kit.MIN, Kit.MAX};

  /** One item at each end. */
  private static final Kit.Scene TWO = run -> {
    run.put(0, 0, 99);
    run.call("put", 1, 99, 999999);
  };

  public static void main(String[] args) {
    Kit.play(BoundsLooksTest.class, 10, 17);
  }

  /** A call by map and key: both are told as unknown, whatever the rest is. */
  private static void mapAndKeyFirst(String name, Object... rest) {
    Object[] args = new Object[rest.length + 2];
    System.arraycopy(rest, 0, args, 2, rest.length);
    for (int map : NO_MAPS) {
      args[0] = map;
      args[1] = 11;
      Kit.refused(Kit.BUSY, UNKNOWN, name, args.clone());
    }
    for (int key : NO_KEYS) {
      args[0] = 0;
      args[1] = key;
      Kit.refused(Kit.BUSY, UNKNOWN, name, args.clone());
    }
  }

  // ---------------------------------------------------------------- 10: about

  private static void p10Maps() {
    Kit.mapBounds(Kit.BUSY, "about", 0, 0);
  }

  private static void p10What0To5() {
    Kit.bounds(Kit.BUSY, BAD, 1, 0, 5, "about", 0, 0);
    Kit.bounds(Kit.NOTHING, BAD, 1, 0, 5, "about", 1, 0);
  }

  private static void p10UnknownIsToldAheadOfBad() {
    for (int map : NO_MAPS) {
      Kit.refused(Kit.BUSY, UNKNOWN, "about", map, 6);
      Kit.refused(Kit.BUSY, UNKNOWN, "about", map, -1);
    }
  }

  private static void aboutIs(Kit.Scene scene, int map, int... due) {
    for (int what = 0; what < due.length; what++) {
      Kit.quiet(scene, due[what], "about", map, what);
    }
  }

  private static void p10OfNothing() {
    aboutIs(Kit.NOTHING, 0, 0, 0, 0, NONE, NONE, 0);
    aboutIs(Kit.NOTHING, 1, 0, 0, 0, NONE, NONE, 0);
  }

  private static void p10OfOne() {
    aboutIs(run -> run.put(0, 0), 0, 1, 1, 0, 0, 0, 1);
    aboutIs(run -> run.put(1, 99), 1, 1, 1, 0, 99, 99, 1);
  }

  private static void p10OfThreeAndFour() {
    // 1, 2, 3 looks; then 2, 1, 2, 3
    aboutIs(run -> run.put(0, 1, 2, 3), 0, 3, 1, 0, 1, 3, 6);
    aboutIs(run -> run.put(0, 1, 2, 3, 4), 0, 4, 2, 1, 1, 4, 8);
  }

  private static void p10Of40() {
    Kit.Run run = new Kit.Run(Kit.FULL_0);
    Kit.due("items", run.call("about", 0, 0), 40);
    Kit.due("least", run.call("about", 0, 3), 0);
    Kit.due("greatest", run.call("about", 0, 4), 78);
    long heights = 0;
    long looks = 0;
    long top = 0;
    for (int i = 0; i < 40; i++) {
      long height = run.call("item", 0, i, 2);
      heights += height;
      top = Math.max(top, height + 1);
      looks += run.call("looks", 0, 2 * i);
    }
    Kit.due("top", run.call("about", 0, 1), top);
    Kit.due("heights", run.call("about", 0, 2), heights);
    Kit.due("looks", run.call("about", 0, 5), looks);
  }

  // ---------------------------------------------------------------- 11: item

  private static void p11Maps() {
    Kit.mapBounds(Kit.BUSY, "item", 0, 0, 0);
  }

  private static void p11FromTheFirstToTheLast() {
    Kit.bounds(Kit.BUSY, UNKNOWN, 1, 0, 8, "item", 0, 0, 0);
    Kit.bounds(Kit.BUSY, UNKNOWN, 1, 0, 2, "item", 1, 0, 0);
    Kit.bounds(Kit.FULL_0, UNKNOWN, 1, 0, 39, "item", 0, 0, 0);
    Kit.taken(Kit.FULL_0, 0, "item", 0, 0, 0);
    Kit.taken(Kit.FULL_0, 78, "item", 0, 39, 0);
    Kit.taken(Kit.FULL_0, 780, "item", 0, 39, 1);
    Kit.taken(Kit.FULL_0, 0, "item", 0, 39, 2);
  }

  private static void p11OfNothing() {
    for (int what = 0; what < 3; what++) {
      Kit.refused(Kit.NOTHING, UNKNOWN, "item", 0, 0, what);
      Kit.refused(Kit.NOTHING, UNKNOWN, "item", 1, 0, what);
    }
  }

  private static void p11WhatWasRemovedIsNoItem() {
    Kit.Scene less = Kit.then(Kit.BUSY, run -> run.call("remove", 0, 90));
    Kit.refused(less, UNKNOWN, "item", 0, 8, 0);
    Kit.taken(less, 80, "item", 0, 7, 0);
  }

  private static void p11What0To2() {
    Kit.bounds(Kit.BUSY, BAD, 2, 0, 2, "item", 0, 8, 0);
  }

  private static void p11UnknownIsToldAheadOfBad() {
    for (int what : new int[] {-1, 3, Kit.MIN, Kit.MAX}) {
      Kit.refused(Kit.BUSY, UNKNOWN, "item", 2, 0, what);
      Kit.refused(Kit.BUSY, UNKNOWN, "item", -1, 0, what);
      Kit.refused(Kit.BUSY, UNKNOWN, "item", 0, 9, what);
      Kit.refused(Kit.BUSY, UNKNOWN, "item", 0, -1, what);
    }
  }

  // ---------------------------------------------------------------- 12: get

  private static void p12Maps() {
    Kit.mapBounds(Kit.BUSY, "get", 0, 60);
    mapAndKeyFirst("get");
  }

  private static void p12Keys0To99() {
    Kit.keyBounds(Kit.ENDS, 1, "get", 0, 0);
    Kit.keyBounds(Kit.NOTHING, 1, "get", 1, 0);
  }

  private static void p12NoneIfItIsNotThere() {
    Kit.quiet(Kit.NOTHING, NONE, "get", 0, 0);
    Kit.quiet(Kit.NOTHING, NONE, "get", 1, 99);
    Kit.quiet(Kit.BUSY, NONE, "get", 0, 59);
    Kit.quiet(Kit.BUSY, NONE, "get", 0, 61);
    Kit.quiet(Kit.FULL_0, NONE, "get", 0, 79);
  }

  private static void p12ValuesAtTheEnds() {
    Kit.quiet(TWO, 0, "get", 0, 0);
    Kit.quiet(TWO, 990, "get", 0, 99);
    Kit.quiet(TWO, 999999, "get", 1, 99);
  }

  // ---------------------------------------------------------------- 13: span

  private static void p13Maps() {
    Kit.mapBounds(Kit.BUSY, "span", 0, 60, 0);
  }

  private static void p13Keys0To99() {
    Kit.keyBounds(Kit.ENDS, 1, "span", 0, 0, 0);
  }

  private static void p13Levels0ToItsHeight() {
    // heights 0 1 0 2 0 1 0, keys 2 .. 14
    Kit.Scene scene = Kit.shaped(0, "0102010");
    Kit.bounds(scene, BAD, 2, 0, 0, "span", 0, 2, 0);
    Kit.bounds(scene, BAD, 2, 0, 1, "span", 0, 4, 0);
    Kit.bounds(scene, BAD, 2, 0, 2, "span", 0, 8, 0);
  }

  private static void p13UpToTheEnd() {
    Kit.Scene scene = Kit.shaped(0, "0102010");
    Kit.quiet(scene, 4, "span", 0, 8, 2);
    Kit.quiet(scene, 2, "span", 0, 12, 1);
    Kit.quiet(scene, 1, "span", 0, 14, 0);
    Kit.quiet(scene, 2, "span", 0, 8, 1);
    Kit.quiet(scene, 1, "span", 0, 8, 0);
    Kit.quiet(scene, 2, "span", 0, 4, 1);
    Kit.quiet(run -> run.put(1, 5), 1, "span", 1, 5, 0);
  }

  private static void p13LateIsToldAheadOfBad() {
    Kit.refused(Kit.BUSY, LATE, "span", 0, 11, 0);
    Kit.refused(Kit.BUSY, LATE, "span", 0, 11, -1);
    Kit.refused(Kit.BUSY, LATE, "span", 0, 11, Kit.MAX);
    Kit.refused(Kit.NOTHING, LATE, "span", 1, 0, Kit.MIN);
  }

  private static void p13UnknownIsToldAheadOfLate() {
    mapAndKeyFirst("span", -1);
    mapAndKeyFirst("span", 0);
  }

  // ---------------------------------------------------------------- 14: rank

  private static void p14Maps() {
    Kit.mapBounds(Kit.BUSY, "rank", 0, 60);
    mapAndKeyFirst("rank");
  }

  private static void p14Keys0To99() {
    Kit.keyBounds(Kit.ENDS, 1, "rank", 0, 0);
  }

  private static void p14FromNoneToAll() {
    Kit.quiet(Kit.NOTHING, 0, "rank", 0, 99);
    Kit.quiet(Kit.ENDS, 0, "rank", 0, 0);
    Kit.quiet(Kit.ENDS, 1, "rank", 0, 1);
    Kit.quiet(Kit.ENDS, 10, "rank", 0, 99);
    Kit.quiet(Kit.FULL_0, 39, "rank", 0, 78);
    Kit.quiet(Kit.FULL_0, 40, "rank", 0, 79);
    Kit.quiet(Kit.FULL_0, 40, "rank", 0, 99);
  }

  // ---------------------------------------------------------------- 15: near

  private static void p15Maps() {
    Kit.mapBounds(Kit.BUSY, "near", 0, 60, 0);
  }

  private static void p15Keys0To99() {
    Kit.keyBounds(Kit.BUSY, 1, "near", 0, 0, 0);
    Kit.keyBounds(Kit.BUSY, 1, "near", 0, 0, 1);
  }

  private static void p15Up0Or1() {
    Kit.bounds(Kit.BUSY, BAD, 2, 0, 1, "near", 0, 50, 0);
    Kit.bounds(Kit.NOTHING, BAD, 2, 0, 1, "near", 0, 50, 0);
  }

  private static void p15UnknownIsToldAheadOfBad() {
    mapAndKeyFirst("near", 2);
    mapAndKeyFirst("near", -1);
  }

  private static void p15OneItselfIsNear() {
    Kit.quiet(Kit.BUSY, 50, "near", 0, 50, 0);
    Kit.quiet(Kit.BUSY, 50, "near", 0, 50, 1);
    Kit.quiet(Kit.ENDS, 0, "near", 0, 0, 0);
    Kit.quiet(Kit.ENDS, 99, "near", 0, 99, 1);
  }

  private static void p15NextToOne() {
    Kit.quiet(Kit.BUSY, 40, "near", 0, 49, 0);
    Kit.quiet(Kit.BUSY, 50, "near", 0, 49, 1);
    Kit.quiet(Kit.BUSY, 50, "near", 0, 51, 0);
    Kit.quiet(Kit.BUSY, 60, "near", 0, 51, 1);
  }

  private static void p15NoneBeyondTheEnds() {
    Kit.quiet(Kit.BUSY, NONE, "near", 0, 9, 0);
    Kit.quiet(Kit.BUSY, NONE, "near", 0, 0, 0);
    Kit.quiet(Kit.BUSY, 10, "near", 0, 10, 0);
    Kit.quiet(Kit.BUSY, NONE, "near", 0, 91, 1);
    Kit.quiet(Kit.BUSY, NONE, "near", 0, 99, 1);
    Kit.quiet(Kit.BUSY, 90, "near", 0, 90, 1);
    Kit.quiet(Kit.NOTHING, NONE, "near", 0, 50, 0);
    Kit.quiet(Kit.NOTHING, NONE, "near", 1, 50, 1);
  }

  // ---------------------------------------------------------------- 16: looks

  private static void p16Maps() {
    Kit.mapBounds(Kit.BUSY, "looks", 0, 60);
    mapAndKeyFirst("looks");
  }

  private static void p16Keys0To99() {
    Kit.keyBounds(Kit.ENDS, 1, "looks", 0, 0);
    Kit.keyBounds(Kit.NOTHING, 1, "looks", 1, 0);
  }

  private static void p16InNothingNone() {
    Kit.quiet(Kit.NOTHING, 0, "looks", 0, 0);
    Kit.quiet(Kit.NOTHING, 0, "looks", 1, 99);
  }

  private static void p16InOneOne() {
    Kit.Scene one = run -> run.put(0, 50);
    for (int key : new int[] {0, 49, 50, 51, 99}) {
      Kit.quiet(one, 1, "looks", 0, key);
    }
  }

  private static void p16NoneBehindTheLastIsNoLook() {
    // heights 0 1 0, keys 2 4 6: for 3 one looks at 4, 2 and, a level lower, at 4 again
    Kit.Scene scene = Kit.shaped(0, "010");
    int[] due = {2, 2, 2, 3, 1, 2, 2, 2, 2};
    for (int key = 0; key < due.length; key++) {
      Kit.quiet(scene, due[key], "looks", 0, key);
    }
    Kit.quiet(scene, 2, "looks", 0, 99);
  }

  private static void p16AGreaterOneIsALook() {
    // heights 0 0 1 0 0: at level 1 the 6, at level 0 what is ahead of it
    Kit.Scene scene = Kit.shaped(0, "00100");
    int[] due = {2, 2, 2, 3, 3, 4, 1, 2, 2, 3, 3, 3};
    for (int key = 0; key < due.length; key++) {
      Kit.quiet(scene, due[key], "looks", 0, key);
    }
  }

  // ---------------------------------------------------------------- 17: sum

  private static void p17Maps() {
    Kit.mapBounds(Kit.BUSY, "sum", 0, 10, 60);
  }

  private static void p17Keys0To99() {
    Kit.keyBounds(Kit.BUSY, 1, "sum", 0, 0, 99);
    Kit.keyBounds(Kit.BUSY, 2, "sum", 0, 0, 99);
  }

  private static void p17AMayBeBButNotMore() {
    Kit.quiet(Kit.BUSY, 500, "sum", 0, 50, 50);
    Kit.quiet(Kit.BUSY, 0, "sum", 0, 51, 51);
    Kit.refused(Kit.BUSY, BAD, "sum", 0, 51, 50);
    Kit.refused(Kit.BUSY, BAD, "sum", 0, 99, 0);
    Kit.refused(Kit.NOTHING, BAD, "sum", 1, 1, 0);
  }

  private static void p17UnknownIsToldAheadOfBad() {
    for (int key : NO_KEYS) {
      Kit.refused(Kit.BUSY, UNKNOWN, "sum", 0, key, 0);
      Kit.refused(Kit.BUSY, UNKNOWN, "sum", 0, 99, key);
    }
    for (int map : NO_MAPS) {
      Kit.refused(Kit.BUSY, UNKNOWN, "sum", map, 51, 50);
    }
  }

  private static void p17BothEndsCount() {
    Kit.quiet(Kit.BUSY, 1200, "sum", 0, 30, 50);
    Kit.quiet(Kit.BUSY, 400, "sum", 0, 31, 49);
    Kit.quiet(TWO, 990, "sum", 0, 0, 99);
    Kit.quiet(TWO, 0, "sum", 0, 0, 98);
    Kit.quiet(TWO, 990, "sum", 0, 1, 99);
    Kit.quiet(Kit.NOTHING, 0, "sum", 0, 0, 99);
  }

  private static void p17TheMost() {
    Kit.Run run = new Kit.Run();
    for (int key = 60; key < 100; key++) {
      run.call("put", 1, key, 999999);
    }
    Kit.due("sum", run.call("sum", 1, 0, 99), 39999960);
  }
}
