import java.util.ArrayList;
import java.util.Arrays;
import java.util.List;

/** The bounds of what would be and of what is sought, promises 18 to 24, case by case. */
public final class BoundsWouldTest {
  private static final int UNKNOWN = Kit.UNKNOWN, BAD = Kit.BAD, FULL = Kit.FULL;
  private static final int NONE = Kit.NONE;
  private static final int[] NO_MAPS = {-1, 2, Kit.MIN, Kit.MAX};
  private static final int[] NO_KEYS = {-1, 100, Kit.MIN, Kit.MAX};
  private static final int[] WRONG = {-1, 7, Kit.MIN, Kit.MAX};

  private static final Kit.Scene SIX_SOUGHT = Kit.then(Kit.BUSY, run -> sought(run, 4));
  private static final Kit.Scene FIVE_SOUGHT = Kit.then(Kit.BUSY, run -> sought(run, 3));

  public static void main(String[] args) {
    Kit.play(BoundsWouldTest.class, 18, 24);
  }

  private static void sought(Kit.Run run, int more) {
    for (int i = 0; i < more; i++) {
      run.call("seek", 0, 4, 1);
    }
  }

  private static Kit.Scene of(int map, int... keys) {
    return run -> run.put(map, keys);
  }

  // ---------------------------------------------------------------- 18: would

  private static void p18Maps() {
    Kit.mapBounds(Kit.BUSY, "would", 0, 60, 0);
  }

  private static void p18Keys0To99() {
    Kit.keyBounds(Kit.BUSY, 1, "would", 0, 0, 0);
    Kit.keyBounds(Kit.ENDS, 1, "would", 0, 0, 2);
    Kit.keyBounds(Kit.NOTHING, 1, "would", 1, 0, 1);
  }

  private static void p18What0To2() {
    Kit.bounds(Kit.BUSY, BAD, 2, 0, 2, "would", 0, 60, 0);
    Kit.bounds(Kit.BUSY, BAD, 2, 0, 2, "would", 0, 61, 0);
  }

  private static void p18The40thIsTakenThe41stIsFull() {
    for (int what = 0; what < 3; what++) {
      Kit.taken(Kit.OF_39, "would", 0, 1, what);
      Kit.refused(Kit.FULL_0, FULL, "would", 0, 1, what);
      Kit.refused(Kit.FULL_0, FULL, "would", 0, 99, what);
      Kit.refused(Kit.FULL_1, FULL, "would", 1, 1, what);
    }
  }

  private static void p18InAFullMapOneThatIsThereIsTaken() {
    for (int key : new int[] {0, 30, 78}) {
      Kit.Run run = new Kit.Run(Kit.FULL_0);
      long top = run.call("would", 0, key, 1);
      long looks = run.call("would", 0, key, 2);
      run.call("remove", 0, key);
      Kit.due("top without " + key, top, run.call("about", 0, 1));
      Kit.due("looks without " + key, looks, run.call("about", 0, 5));
    }
  }

  private static void p18WhatIsToldFirst() {
    for (int what : WRONG) {
      Kit.refused(Kit.FULL_0, BAD, "would", 0, 1, what);
      for (int key : NO_KEYS) {
        Kit.refused(Kit.FULL_0, UNKNOWN, "would", 0, key, what);
      }
    }
    for (int map : NO_MAPS) {
      Kit.refused(Kit.FULL_0, UNKNOWN, "would", map, 1, 3);
    }
  }

  private static void wouldIs(Kit.Scene scene, int key, int... due) {
    for (int what = 0; what < 3; what++) {
      Kit.quiet(scene, due[what], "would", 0, key, what);
    }
  }

  private static void p18IntoNothingAndTheOnlyOne() {
    wouldIs(Kit.NOTHING, 0, 0, 1, 1);
    wouldIs(Kit.NOTHING, 99, 0, 1, 1);
    wouldIs(of(0, 50), 50, 0, 0, 0);
    wouldIs(of(0, 50), 51, 0, 1, 3);
  }

  private static void p18TheTopRisesAndFalls() {
    // 1 2 3, and 4: the 2 is higher; 2, 1, 2 and 3 looks
    wouldIs(of(0, 1, 2, 3), 4, 1, 2, 8);
    wouldIs(of(0, 1, 2), 3, 0, 1, 6);
    // heights 0 1 0 without the first: the fence is lower; without the fence: the next one
    // changes with it and is lower again, so that none other has another height
    wouldIs(Kit.shaped(0, "010"), 2, 1, 1, 3);
    wouldIs(Kit.shaped(0, "010"), 4, 0, 1, 3);
  }

  // ---------------------------------------------------------------- 19: best

  private static void p19Maps() {
    Kit.mapBounds(Kit.BUSY, "best", 0, 0);
    Kit.mapBounds(Kit.BUSY, "best", 0, 1);
  }

  private static void p19What0Or1() {
    Kit.bounds(Kit.BUSY, BAD, 1, 0, 1, "best", 0, 0);
    Kit.bounds(Kit.NOTHING, BAD, 1, 0, 1, "best", 1, 0);
  }

  private static void p19WhatIsToldFirst() {
    for (int what : WRONG) {
      Kit.refused(Kit.FULL_0, BAD, "best", 0, what);
      for (int map : NO_MAPS) {
        Kit.refused(Kit.FULL_0, UNKNOWN, "best", map, what);
      }
    }
  }

  private static void p19NoneIfItIsFull() {
    Kit.quiet(Kit.FULL_0, NONE, "best", 0, 0);
    Kit.quiet(Kit.FULL_0, NONE, "best", 0, 1);
    Kit.quiet(Kit.BOTH_FULL, NONE, "best", 1, 0);
    Kit.quiet(Kit.BOTH_FULL, NONE, "best", 1, 1);
    Kit.quiet(Kit.FULL_0, 0, "best", 1, 0);
  }

  private static void p19Of39TheLastOneThatFits() {
    bestIsTheLeastOfAll(Kit.OF_39);
  }

  private static void p19OfLikeOnesTheLeast() {
    Kit.quiet(Kit.NOTHING, 0, "best", 0, 0);
    Kit.quiet(Kit.NOTHING, 1, "best", 0, 1);
    Kit.quiet(of(0, 0), 1, "best", 0, 0);
    Kit.quiet(of(0, 0), 3, "best", 0, 1);
    Kit.quiet(of(0, 99), 0, "best", 0, 0);
    Kit.quiet(of(0, 0, 1), 2, "best", 0, 0);
    Kit.quiet(of(0, 0, 1), 6, "best", 0, 1);
  }

  private static void p19TheGreatestKeyMayBeTheBest() {
    // 95 96 97 98 of heights 0 0 1 0: ahead of all 2 3 4 1 2 looks, behind all 2 3 1 2 3
    Kit.quiet(of(0, 98, 96, 97, 95), 99, "best", 0, 0);
    Kit.quiet(of(0, 98, 96, 97, 95), 11, "best", 0, 1);
  }

  private static void p19NoKeyBehind99IsTried() {
    // the same row one further on: the better place behind all has no key
    Kit.quiet(of(0, 99, 97, 98, 96), 0, "best", 0, 0);
    Kit.quiet(of(0, 99, 97, 98, 96), 12, "best", 0, 1);
  }

  private static void p19EveryKeyIsTried() {
    // ahead of 0 and behind 99 there is no place
    bestIsTheLeastOfAll(of(0, 0, 1, 2, 97, 98, 99));
    bestIsTheLeastOfAll(of(0, 96, 97, 98));
    bestIsTheLeastOfAll(of(0, 98, 97, 96, 95, 94, 93));
    bestIsTheLeastOfAll(Kit.shaped(0, "000100010001000"));
    bestIsTheLeastOfAll(Kit.shaped(0, "0102010"));
    bestIsTheLeastOfAll(Kit.BUSY);
  }

  private static void bestIsTheLeastOfAll(Kit.Scene scene) {
    int best = NONE;
    long fewest = 0;
    for (int key = 0; key < 100; key++) {
      Kit.Run run = new Kit.Run(scene);
      if (run.call("get", 0, key) != NONE) {
        continue;
      }
      run.call("put", 0, key, 0);
      long looks = run.call("about", 0, 5);
      if (best == NONE || looks < fewest) {
        best = key;
        fewest = looks;
      }
    }
    Kit.quiet(scene, best, "best", 0, 0);
    Kit.quiet(scene, fewest, "best", 0, 1);
  }

  // ---------------------------------------------------------------- 20: judge

  private static void p20OneToFourDoings() {
    Kit.bounds(Kit.BUSY, BAD, 0, 1, 4, "judge", 1, 0L);
    Kit.quiet(Kit.BUSY, NONE, "judge", 1, 3010L);
    Kit.quiet(Kit.BUSY, NONE, "judge", 4, 3010_3020_3030_3040L);
  }

  private static void p20RowsOf4NFigures() {
    long most = 1;
    for (int n = 1; n <= 4; n++) {
      most *= 10000;
      Kit.quiet(Kit.BUSY, 0, "judge", n, 0L);
      Kit.quiet(Kit.BUSY, 0, "judge", n, most - 1);
      Kit.refused(Kit.BUSY, BAD, "judge", n, most);
      Kit.refused(Kit.BUSY, BAD, "judge", n, -1L);
      Kit.refused(Kit.BUSY, BAD, "judge", n, Long.MAX_VALUE);
      Kit.refused(Kit.BUSY, BAD, "judge", n, Long.MIN_VALUE);
    }
  }

  private static void p20ARowIsNotCutTo32Bits() {
    Kit.refused(Kit.BUSY, BAD, "judge", 1, (1L << 32) + 3010);
    Kit.refused(Kit.BUSY, BAD, "judge", 2, (1L << 32) + 3010_3020);
    Kit.quiet(Kit.BUSY, NONE, "judge", 3, 3010_3020_3030L);
  }

  private static void p20ThePlaceOfTheFirstOrOfTheLast() {
    Kit.quiet(Kit.BUSY, 0, "judge", 4, 3011_3020_3030_3041L);
    Kit.quiet(Kit.BUSY, 1, "judge", 4, 3010_3021_3030_3040L);
    Kit.quiet(Kit.BUSY, 2, "judge", 4, 3010_3020_3031_3040L);
    Kit.quiet(Kit.BUSY, 3, "judge", 4, 3010_3020_3030_3041L);
    Kit.quiet(Kit.BUSY, 0, "judge", 1, 3011L);
  }

  private static void p20DoingsOfKinds1To5() {
    Kit.quiet(Kit.BUSY, 0, "judge", 1, 10L);
    Kit.quiet(Kit.BUSY, 0, "judge", 1, 6010L);
    Kit.quiet(Kit.BUSY, 0, "judge", 1, 9010L);
    Kit.quiet(Kit.BUSY, NONE, "judge", 1, 1010L);
    Kit.quiet(Kit.BUSY, NONE, "judge", 1, 5099L);
  }

  private static void p20DoingsInMaps0And1() {
    Kit.quiet(Kit.BUSY, NONE, "judge", 1, 3060L);
    Kit.quiet(Kit.BUSY, NONE, "judge", 1, 3160L);
    for (int kind = 1; kind <= 5; kind++) {
      Kit.quiet(Kit.BUSY, 0, "judge", 1, kind * 1000L + 260);
      Kit.quiet(Kit.BUSY, 0, "judge", 1, kind * 1000L + 960);
    }
  }

  private static void p20KeysAtTheEnds() {
    Kit.quiet(Kit.ENDS, NONE, "judge", 2, 3000_3099L);
    Kit.quiet(Kit.ENDS, 2, "judge", 3, 2000_2099_3000L);
    Kit.quiet(Kit.BUSY, NONE, "judge", 4, 1000_1199_3000_3199L);
    Kit.quiet(Kit.BUSY, 0, "judge", 1, 2000L);
    Kit.quiet(Kit.BUSY, 0, "judge", 1, 2099L);
  }

  private static void p20PutInAFullMapCanNotBe() {
    Kit.quiet(Kit.OF_39, NONE, "judge", 1, 1001L);
    Kit.quiet(Kit.OF_39, 1, "judge", 2, 1001_1003L);
    Kit.quiet(Kit.FULL_0, 0, "judge", 1, 1001L);
    Kit.quiet(Kit.FULL_0, NONE, "judge", 1, 1000L);
    Kit.quiet(Kit.FULL_0, NONE, "judge", 2, 2000_1001L);
    Kit.quiet(Kit.FULL_0, 2, "judge", 3, 2000_1001_1003L);
    Kit.quiet(Kit.FULL_0, NONE, "judge", 1, 1100L);
  }

  private static void p20TopsAtTheEnds() {
    Kit.quiet(Kit.NOTHING, NONE, "judge", 1, 4000L);
    Kit.quiet(Kit.NOTHING, 0, "judge", 1, 4001L);
    Kit.quiet(Kit.NOTHING, 1, "judge", 2, 4000_4199L);
    Kit.quiet(of(0, 1, 2, 3), NONE, "judge", 3, 4001_1004_4002L);
    Kit.quiet(of(0, 5), NONE, "judge", 2, 2005_4000L);
  }

  private static void p20LooksAreThatOrFewer() {
    // 1, 2 and 3 looks
    Kit.quiet(of(0, 1, 2, 3), 0, "judge", 1, 5005L);
    Kit.quiet(of(0, 1, 2, 3), NONE, "judge", 1, 5006L);
    Kit.quiet(of(0, 1, 2, 3), NONE, "judge", 1, 5007L);
    Kit.quiet(Kit.NOTHING, NONE, "judge", 1, 5000L);
    Kit.quiet(of(0, 1), 0, "judge", 1, 5000L);
    // 40 items take more than two figures can tell
    Kit.quiet(Kit.FULL_0, 0, "judge", 1, 5099L);
  }

  // ---------------------------------------------------------------- 21: share

  private static void p21Maps() {
    Kit.mapBounds(Kit.BUSY, "share", 0, 0, true);
    Kit.mapBounds(Kit.BUSY, "share", 0, 2, false);
  }

  private static void p21The4LeastOrFewer() {
    Kit.refused(Kit.NOTHING, UNKNOWN, "share", 0, 0, true);
    Kit.refused(Kit.NOTHING, UNKNOWN, "share", 1, 0, false);
    Kit.bounds(of(0, 9), UNKNOWN, 1, 0, 0, "share", 0, 0, true);
    Kit.bounds(of(0, 9, 8), UNKNOWN, 1, 0, 1, "share", 0, 0, true);
    Kit.bounds(of(0, 9, 8, 7), UNKNOWN, 1, 0, 2, "share", 0, 0, true);
    Kit.bounds(of(0, 9, 8, 7, 6), UNKNOWN, 1, 0, 3, "share", 0, 0, true);
    Kit.bounds(of(0, 9, 8, 7, 6, 5), UNKNOWN, 1, 0, 3, "share", 0, 0, false);
    Kit.bounds(Kit.FULL_0, UNKNOWN, 1, 0, 3, "share", 0, 0, false);
    Kit.bounds(Kit.BUSY, UNKNOWN, 1, 0, 2, "share", 1, 0, true);
  }

  private static void shareIs(Kit.Scene scene, int i, int above, int below) {
    Kit.quiet(scene, above, "share", 0, i, true);
    Kit.quiet(scene, below, "share", 0, i, false);
  }

  private static void p21OfAGapAlone() {
    // n in one gap take 1 + 2 + .. n looks, whichever they are
    shareIs(of(0, 9), 0, 1, 1);
    shareIs(of(0, 8, 9), 0, 3, 2);
    shareIs(of(0, 8, 9), 1, 3, 2);
    shareIs(of(0, 7, 8, 9), 0, 2, 1);
    shareIs(of(0, 7, 8, 9), 2, 2, 1);
  }

  private static void p21SharesOfAllAreAllLooks() {
    // 8 looks of 4, in 24 orders; below stands a divisor of 24
    Kit.Run run = new Kit.Run(of(0, 1, 2, 3, 4));
    long all = 0;
    for (int i = 0; i < 4; i++) {
      long below = run.call("share", 0, i, false);
      Kit.due("24 by " + below, below < 1 ? 1 : 24 % below, 0);
      all += run.call("share", 0, i, true) * (24 / Math.max(below, 1));
    }
    Kit.due("shares", all, 24 * 8);
  }

  private static void p21TheFifthStays() {
    // put downward they take 2, 3, 4, 1 and 2 looks; the one that is left takes 1
    Kit.Run run = new Kit.Run(of(0, 5, 4, 3, 2, 1));
    Kit.due("looks", run.call("about", 0, 5), 12);
    long all = 0;
    for (int i = 0; i < 4; i++) {
      all += run.call("share", 0, i, true) * 24 / run.call("share", 0, i, false);
    }
    Kit.due("shares", all, 24 * 11);
  }

  /** In what orders the four can come, told as rows of four places. */
  private static List<int[]> orders() {
    List<int[]> all = new ArrayList<>();
    for (int code = 0; code < 256; code++) {
      int[] order = {code >> 6, code >> 4 & 3, code >> 2 & 3, code & 3};
      if (Arrays.stream(order).distinct().count() == 4) {
        all.add(order);
      }
    }
    return all;
  }

  /** Looks of map 0 when those of the four least that have come are removed, the lesser first. */
  private static long looksWithout(Kit.Scene scene, boolean[] come) {
    Kit.Run run = new Kit.Run(scene);
    long[] keys = new long[4];
    for (int i = 0; i < 4; i++) {
      keys[i] = run.call("item", 0, i, 0);
    }
    for (int i = 0; i < 4; i++) {
      if (come[i]) {
        run.call("remove", 0, (int) keys[i]);
      }
    }
    return run.call("about", 0, 5);
  }

  /** The shares by all 24 orders, one after the other. */
  private static void sharesAre(Kit.Scene scene, int[]... due) {
    for (int i = 0; i < 4; i++) {
      long fewer = 0;
      for (int[] order : orders()) {
        boolean[] come = new boolean[4];
        for (int k = 0; order[k] != i; k++) {
          come[order[k]] = true;
        }
        long were = looksWithout(scene, come);
        come[i] = true;
        fewer += were - looksWithout(scene, come);
      }
      Kit.due("share by orders of " + i, fewer * due[i][1], 24L * due[i][0]);
      shareIs(scene, i, due[i][0], due[i][1]);
    }
  }

  private static Kit.Scene shapedAndPut(String heights, int... keys) {
    return run -> {
      run.tell(Kit.text(heights).replaceAll("(.)20", "$140"));
      run.call("shape", 0);
      run.put(0, keys);
    };
  }

  // Taking one of few ahead of a high fence lowers the fence, and all the many behind it are
  // looked for longer than before.
  private static void p21SharesMayBeNoughtOrLess() {
    sharesAre(shapedAndPut("010102010103010201010", 31, 19, 37, 33, 21, 34, 25, 63, 62, 67, 50,
        53, 81, 78, 73, 69, 54, 83, 70), new int[][] {{-4, 3}, {14, 3}, {14, 3}, {5, 1}});
    sharesAre(shapedAndPut("010201010103010201010", 23, 46, 38, 83, 55, 75, 50, 54, 51, 58, 67,
        65, 49, 53, 78, 86, 79, 59, 62), new int[][] {{3, 1}, {5, 2}, {5, 2}, {0, 1}});
    sharesAre(shapedAndPut("0102010101030102010", 9, 11, 15, 30, 54, 65, 73, 70, 61, 77, 59, 67,
        63, 58, 62, 53, 49, 74), new int[][] {{-1, 6}, {4, 1}, {4, 1}, {25, 6}});
  }

  // ---------------------------------------------------------------- 22: seek

  private static void p22Maps() {
    Kit.mapBounds(Kit.BUSY, "seek", 0, 0, 0);
  }

  private static void p22Looks0To20() {
    Kit.bounds(Kit.BUSY, BAD, 1, 0, 20, "seek", 0, 0, 0);
    Kit.bounds(Kit.NOTHING, BAD, 1, 0, 20, "seek", 1, 0, 1);
  }

  private static void p22Found0Or1() {
    Kit.bounds(Kit.BUSY, BAD, 2, 0, 1, "seek", 0, 3, 0);
  }

  private static void p22TheSixthIsTakenTheSeventhIsNot() {
    Kit.taken(FIVE_SOUGHT, 6, "seek", 1, 20, 1);
    Kit.refused(SIX_SOUGHT, FULL, "seek", 0, 0, 0);
    Kit.refused(SIX_SOUGHT, FULL, "seek", 1, 20, 1);
    Kit.taken(SIX_SOUGHT, 6, "count", 1);
  }

  private static void p22WhatIsToldFirst() {
    for (int l : new int[] {-1, 21, Kit.MIN, Kit.MAX}) {
      Kit.refused(SIX_SOUGHT, BAD, "seek", 0, l, 0);
      Kit.refused(SIX_SOUGHT, UNKNOWN, "seek", 2, l, 2);
    }
    for (int found : new int[] {-1, 2, Kit.MIN, Kit.MAX}) {
      Kit.refused(SIX_SOUGHT, BAD, "seek", 0, 0, found);
    }
    for (int map : NO_MAPS) {
      Kit.refused(SIX_SOUGHT, UNKNOWN, "seek", map, 0, 0);
    }
  }

  private static void p22TheSame6Times() {
    Kit.Run run = new Kit.Run();
    for (int i = 1; i <= 6; i++) {
      Kit.due("seek", run.call("seek", 0, 0, 0), i);
    }
    Kit.due("seek", run.call("seek", 0, 0, 0), FULL);
    Kit.due("keys", run.call("keys", 0), 100);
  }

  // ---------------------------------------------------------------- 23: unseek

  private static void p23OfNothing() {
    Kit.quiet(Kit.NOTHING, 0, "unseek");
    Kit.Scene none = Kit.then(Kit.BUSY, run -> run.call("unseek"));
    Kit.quiet(none, 0, "unseek");
  }

  private static void p23OfSix() {
    Kit.taken(SIX_SOUGHT, 6, "unseek");
    Kit.Run run = new Kit.Run(SIX_SOUGHT);
    run.call("unseek");
    Kit.due("sought", run.call("count", 1), 0);
    Kit.due("keys", run.call("keys", 0), 100);
    for (int i = 1; i <= 6; i++) {
      Kit.due("there is room again", run.call("seek", 0, 3, 0), i);
    }
  }

  private static void p23UnseekIsNoAct() {
    Kit.Run run = new Kit.Run(Kit.BUSY);
    run.call("unseek");
    Kit.due("acts", run.call("count", 0), 14);
    run.call("undo");
    Kit.due("sought", run.call("count", 1), 0);
  }

  // ---------------------------------------------------------------- 24: keys

  private static void p24What0Or1() {
    Kit.bounds(Kit.BUSY, BAD, 0, 0, 1, "keys", 0);
    Kit.bounds(Kit.NOTHING, BAD, 0, 0, 1, "keys", 0);
  }

  private static void keysAre(Kit.Scene scene, int many, int first) {
    Kit.quiet(scene, many, "keys", 0);
    Kit.quiet(scene, first, "keys", 1);
  }

  private static void p24NothingSoughtIsAll() {
    keysAre(Kit.NOTHING, 100, 0);
    keysAre(of(0, 0, 1, 2), 100, 0);
  }

  private static void p24NoKeyIsNone() {
    keysAre(run -> run.call("seek", 0, 0, 1), 0, NONE);
    keysAre(run -> run.call("seek", 1, 20, 0), 0, NONE);
    keysAre(run -> run.call("seek", 1, 20, 1), 0, NONE);
  }

  private static void p24NoLooksInAMapOfNothing() {
    keysAre(run -> run.call("seek", 1, 0, 0), 100, 0);
  }

  private static void p24TheFirstAndTheLastKeyAlone() {
    keysAre(Kit.then(of(0, 0), run -> run.call("seek", 0, 1, 1)), 1, 0);
    keysAre(Kit.then(of(0, 99), run -> run.call("seek", 0, 1, 1)), 1, 99);
    keysAre(Kit.then(of(0, 0), run -> run.call("seek", 0, 1, 0)), 99, 1);
    keysAre(Kit.then(of(0, 99), run -> run.call("seek", 0, 1, 0)), 99, 0);
  }

  private static void p24TheSixthCountsToo() {
    Kit.Scene five = Kit.then(of(0, 7, 9), run -> {
      for (int i = 0; i < 5; i++) {
        run.call("seek", 0, 2, 1);
      }
    });
    keysAre(five, 1, 9);
    keysAre(Kit.then(five, run -> run.call("seek", 1, 0, 0)), 1, 9);
    keysAre(Kit.then(five, run -> run.call("seek", 1, 0, 1)), 0, NONE);
    keysAre(Kit.then(five, run -> run.call("seek", 0, 1, 1)), 0, NONE);
  }

  private static void p24AsMapsAreNow() {
    Kit.Scene scene = Kit.then(of(0, 7, 9), run -> run.call("seek", 0, 2, 1));
    keysAre(Kit.then(scene, run -> run.call("remove", 0, 9)), 0, NONE);
    keysAre(Kit.then(scene, run -> run.call("remove", 0, 7)), 0, NONE);
    keysAre(Kit.then(scene, run -> run.put(0, 99)), 1, 9);
    keysAre(Kit.then(scene, run -> run.put(0, 0)), 1, 7);
  }
}
