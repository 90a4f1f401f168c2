import java.math.BigInteger;
import java.util.Set;
import java.util.TreeSet;

/** The bounds of rests, chances and slots, promises 25 to 31, each as a case of its own. */
public final class BoundsRestsTest {
  private static final int UNKNOWN = Kit.UNKNOWN, BAD = Kit.BAD, LATE = Kit.LATE;
  private static final int FULL = Kit.FULL;
  private static final int[] NO_MAPS = {-1, 2, Kit.MIN, Kit.MAX};
  private static final int[] NO_KEYS = {-1, 100, Kit.MIN, Kit.MAX};
  private static final long TIMES = 6364136223846793005L;
  private static final long AND = 1442695040888963407L;

  public static void main(String[] args) {
    Kit.play(BoundsRestsTest.class, 25, 31);
  }

  private static Kit.Scene of(int map, int... keys) {
    return run -> run.put(map, keys);
  }

  // ---------------------------------------------------------------- 25: rests

  private static void p25Maps() {
    Kit.mapBounds(Kit.BUSY, "rests", 0, 1, 2, 0);
  }

  private static void p25Keys0To99() {
    Kit.keyBounds(Kit.BUSY, 1, "rests", 0, 0, 1, 0);
    Kit.keyBounds(Kit.BUSY, 2, "rests", 0, 1, 0, 1);
    Kit.taken(Kit.NOTHING, 11, "rests", 0, 0, 99, 1);
    Kit.taken(Kit.NOTHING, 11, "rests", 1, 99, 0, 1);
  }

  private static void p25BothMayNotBeOne() {
    Kit.refused(Kit.BUSY, BAD, "rests", 0, 1, 1, 0);
    Kit.refused(Kit.BUSY, BAD, "rests", 0, 0, 0, 1);
    Kit.refused(Kit.NOTHING, BAD, "rests", 1, 99, 99, 0);
    Kit.taken(Kit.BUSY, "rests", 0, 1, 2, 0);
    Kit.taken(Kit.BUSY, "rests", 0, 2, 1, 0);
  }

  private static void p25What0Or1() {
    Kit.bounds(Kit.BUSY, BAD, 3, 0, 1, "rests", 0, 1, 2, 0);
  }

  private static void p25OneThatIsThereIsLate() {
    Kit.refused(Kit.BUSY, LATE, "rests", 0, 10, 11, 0);
    Kit.refused(Kit.BUSY, LATE, "rests", 0, 11, 10, 0);
    Kit.refused(Kit.BUSY, LATE, "rests", 0, 10, 20, 1);
    Kit.refused(Kit.BUSY, LATE, "rests", 0, 90, 99, 1);
    Kit.taken(Kit.BUSY, "rests", 1, 10, 20, 1);
  }

  private static void p25Of38ItemsOfNoMore() {
    Kit.taken(Kit.OF_38, "rests", 0, 1, 3, 0);
    Kit.taken(Kit.OF_38, "rests", 0, 1, 3, 1);
    Kit.refused(Kit.OF_39, FULL, "rests", 0, 1, 3, 0);
    Kit.refused(Kit.OF_39, FULL, "rests", 0, 1, 3, 1);
    Kit.refused(Kit.FULL_0, FULL, "rests", 0, 98, 99, 0);
    Kit.refused(Kit.FULL_1, FULL, "rests", 1, 1, 3, 0);
    Kit.taken(Kit.FULL_1, "rests", 0, 2, 3, 0);
  }

  private static void p25WhatIsToldFirst() {
    for (int map : NO_MAPS) {
      Kit.refused(Kit.FULL_0, UNKNOWN, "rests", map, 1, 1, 2);
    }
    for (int key : NO_KEYS) {
      Kit.refused(Kit.FULL_0, UNKNOWN, "rests", 0, key, key, 2);
      Kit.refused(Kit.FULL_0, UNKNOWN, "rests", 0, 0, key, 2);
      Kit.refused(Kit.FULL_0, UNKNOWN, "rests", 0, key, 0, -1);
    }
    Kit.refused(Kit.FULL_0, BAD, "rests", 0, 0, 0, 0);
    Kit.refused(Kit.FULL_0, BAD, "rests", 0, 1, 1, 0);
    Kit.refused(Kit.FULL_0, BAD, "rests", 0, 0, 2, 2);
    Kit.refused(Kit.FULL_0, BAD, "rests", 0, 1, 3, -1);
    Kit.refused(Kit.FULL_0, LATE, "rests", 0, 0, 1, 0);
    Kit.refused(Kit.FULL_0, LATE, "rests", 0, 1, 0, 1);
    Kit.refused(Kit.OF_39, LATE, "rests", 0, 1, 76, 1);
  }

  private static void restsAre(String heights, int one, int other, int many, int first) {
    Kit.Scene scene = Kit.shaped(0, heights);
    Kit.quiet(scene, many, "rests", 0, one, other, 0);
    Kit.quiet(scene, first, "rests", 0, one, other, 1);
  }

  private static void p25SixLooksAreAsGoodAsNone() {
    // of nothing each takes 2 looks at most
    restsAre("", 0, 99, 1, 11);
    // 10 less 6 is 4: by 12 22 18 22 20 each has as much as without, and by 12 22 28 36 40 too
    restsAre("010002001020010001000", 21, 41, 4, 0);
  }

  /** What each has, if both do so, by doing it: the one's, and behind it the other's. */
  private static long[] gains(Kit.Scene scene, int one, int other, int pair) {
    Kit.Run run = new Kit.Run(scene);
    if (pair / 10 == 1) {
      run.call("put", 0, one, 0);
    }
    if (pair % 10 == 1) {
      run.call("put", 0, other, 0);
    }
    return new long[] {pair / 10 == 1 ? 10 - run.call("looks", 0, one) : 4,
        pair % 10 == 1 ? 10 - run.call("looks", 0, other) : 4};
  }

  private static String restsByDoing(Kit.Scene scene, int one, int other) {
    int many = 0;
    int first = Kit.NONE;
    for (int pair : new int[] {0, 1, 10, 11}) {
      long[] has = gains(scene, one, other, pair);
      long oneElse = gains(scene, one, other, pair < 10 ? pair + 10 : pair - 10)[0];
      long otherElse = gains(scene, one, other, pair % 10 == 0 ? pair + 1 : pair - 1)[1];
      if (has[0] >= oneElse && has[1] >= otherElse) {
        many++;
        first = first == Kit.NONE ? pair : first;
      }
    }
    return many + ", first " + first;
  }

  private static void p25EveryPairMayBeTheFirst() {
    Set<String> seen = new TreeSet<>();
    for (String heights : new String[] {"000100102010010", "010010100020100",
        "010002001020010001000", "0010001000200010", "010020010010"}) {
      Kit.Scene scene = Kit.shaped(0, heights);
      for (int one = 1; one <= 2 * heights.length() + 1; one += 2) {
        for (int other = 1; other <= 2 * heights.length() + 1; other += 2) {
          if (one == other) {
            continue;
          }
          String want = restsByDoing(scene, one, other);
          seen.add(want);
          Kit.Run run = new Kit.Run(scene);
          Kit.dueText("rests of " + one + ", " + other + " in " + heights,
              run.call("rests", 0, one, other, 0) + ", first "
                  + run.call("rests", 0, one, other, 1), want);
        }
      }
    }
    for (String want : new String[] {"1, first 0", "1, first 1", "1, first 10", "1, first 11",
        "2, first 0", "2, first 1", "2, first 10", "3, first 0", "3, first 1", "4, first 0"}) {
      Kit.dueText("a pair was seen", seen.contains(want) ? want : "none", want);
    }
  }

  // ---------------------------------------------------------------- 26: lost

  private static void p26Maps() {
    Kit.mapBounds(Kit.BUSY, "lost", 0, 1, 5, true);
    Kit.mapBounds(Kit.BUSY, "lost", 0, 1, 5, false);
  }

  private static void p26Tops0To9() {
    Kit.bounds(Kit.BUSY, BAD, 1, 0, 9, "lost", 0, 0, 5, true);
    Kit.bounds(Kit.NOTHING, BAD, 1, 0, 9, "lost", 1, 0, 5, false);
  }

  private static void p26Tenths0To10() {
    Kit.bounds(Kit.BUSY, BAD, 2, 0, 10, "lost", 0, 1, 0, true);
    Kit.bounds(Kit.NOTHING, BAD, 2, 0, 10, "lost", 1, 1, 0, false);
  }

  private static void p26UnknownIsToldAheadOfBad() {
    for (int map : NO_MAPS) {
      Kit.refused(Kit.BUSY, UNKNOWN, "lost", map, 10, 5, true);
      Kit.refused(Kit.BUSY, UNKNOWN, "lost", map, 1, 11, false);
      Kit.refused(Kit.BUSY, UNKNOWN, "lost", map, -1, -1, true);
    }
    Kit.refused(Kit.BUSY, BAD, "lost", 0, 10, 11, true);
  }

  private static void lostIs(Kit.Scene scene, int h, int x, int above, int below) {
    Kit.quiet(scene, above, "lost", 0, h, x, true);
    Kit.quiet(scene, below, "lost", 0, h, x, false);
  }

  private static void p26OfNothing() {
    lostIs(Kit.NOTHING, 0, 0, 1, 1);
    lostIs(Kit.NOTHING, 0, 10, 1, 1);
    lostIs(Kit.NOTHING, 9, 5, 1, 1);
  }

  private static void p26ByNoughtAndByTenTenths() {
    lostIs(of(0, 9), 0, 0, 0, 1);
    lostIs(of(0, 9), 0, 10, 1, 1);
    lostIs(of(0, 9), 1, 0, 1, 1);
    lostIs(of(0, 6, 7, 8, 9), 1, 0, 0, 1);
    lostIs(of(0, 6, 7, 8, 9), 2, 0, 1, 1);
    lostIs(of(0, 6, 7, 8, 9), 0, 10, 1, 1);
  }

  private static void p26InLeastTerms() {
    int[] above = {0, 1, 1, 3, 2, 1, 3, 7, 4, 9, 1};
    int[] below = {1, 10, 5, 10, 5, 2, 5, 10, 5, 10, 1};
    for (int x = 0; x <= 10; x++) {
      lostIs(of(0, 9), 0, x, above[x], below[x]);
    }
    lostIs(of(0, 8, 9), 0, 5, 1, 4);
    lostIs(of(0, 7, 8, 9), 0, 2, 1, 125);
    lostIs(of(0, 6, 7, 8, 9), 0, 1, 1, 10000);
  }

  private static void p26TheFifthStays() {
    lostIs(of(0, 5, 6, 7, 8, 9), 0, 10, 0, 1);
    lostIs(of(0, 5, 6, 7, 8, 9), 1, 10, 1, 1);
  }

  private static void p26TopsThatAre() {
    // of four in 0 1 0 0 one that goes leaves 0 1 0, two leave 0 0
    lostIs(of(0, 6, 7, 8, 9), 1, 5, 11, 16);
    lostIs(of(0, 6, 7, 8, 9), 0, 5, 1, 16);
    lostIs(of(0, 6, 7, 8, 9), 2, 5, 1, 1);
    lostIs(of(0, 6, 7, 8, 9), 9, 5, 1, 1);
  }

  // ---------------------------------------------------------------- 27: seed

  private static void p27EveryLong() {
    Kit.Run run = new Kit.Run();
    long was = 0;
    long[] seeds = {Long.MIN_VALUE, Long.MAX_VALUE, -1, 1, 0, 1L << 32, 1L << 63, -9, -2};
    for (long v : seeds) {
      Kit.due("seed(" + v + ")", run.call("seed", v), was);
      was = v;
    }
    Kit.due("the last one", run.call("seed", 0L), was);
  }

  private static void p27TheSeedIsNoAct() {
    Kit.Run run = new Kit.Run(Kit.BUSY);
    run.call("seed", 5L);
    Kit.due("acts", run.call("count", 0), 14);
    run.call("undo");
    run.call("again", 0);
    Kit.due("the seed", run.call("seed", 0L), 5);
  }

  // ---------------------------------------------------------------- 28: rounds

  private static void p28Maps() {
    Kit.mapBounds(Kit.BUSY, "rounds", 0, 1);
  }

  private static void p28Rounds1To30() {
    Kit.bounds(Kit.BUSY, BAD, 1, 1, 30, "rounds", 0, 1);
    Kit.bounds(Kit.NOTHING, BAD, 1, 1, 30, "rounds", 1, 1);
  }

  private static void p28UnknownIsToldAheadOfBad() {
    for (int map : NO_MAPS) {
      Kit.refused(Kit.BUSY, UNKNOWN, "rounds", map, 0);
      Kit.refused(Kit.BUSY, UNKNOWN, "rounds", map, 31);
    }
  }

  private static long stepped(long seed, int times) {
    BigInteger x = BigInteger.valueOf(seed);
    for (int i = 0; i < times; i++) {
      x = x.multiply(BigInteger.valueOf(TIMES)).add(BigInteger.valueOf(AND));
    }
    return x.longValue();
  }

  private static void p28TheSeedWrapsAround() {
    for (long seed : new long[] {0, 1, -1, Long.MAX_VALUE, Long.MIN_VALUE, 1L << 62, 77}) {
      for (int m : new int[] {1, 2, 29, 30}) {
        Kit.Run run = new Kit.Run();
        run.call("seed", seed);
        run.call("rounds", 0, m);
        Kit.due(m + " rounds by " + seed, run.call("seed", 0L), stepped(seed, m));
      }
    }
  }

  /** The seed that becomes so much by one round. */
  private static long seedAheadOf(long next) {
    BigInteger all = BigInteger.ONE.shiftLeft(64);
    return BigInteger.valueOf(next).subtract(BigInteger.valueOf(AND))
        .multiply(BigInteger.valueOf(TIMES).modInverse(all)).longValue();
  }

  private static void oneRound(Kit.Scene scene, long next, long want) {
    Kit.Run run = new Kit.Run(scene);
    run.call("seed", seedAheadOf(next));
    Kit.due("a round to " + next, run.call("rounds", 0, 1), want);
    Kit.due("the seed", run.call("seed", 0L), next);
  }

  private static void drawn(Kit.Scene scene, int left, long want) {
    oneRound(scene, (long) left << 33, want);
    oneRound(scene, (long) (left + 200) << 33, want);
    oneRound(scene, ((long) (left + 1) << 33) - 1, want);
  }

  private static void p28What0To99PutsAnd100To199Removes() {
    // put: 1 look of nothing, 3 beside another one, 1 if it is there; removed: 0
    drawn(Kit.NOTHING, 0, 1);
    drawn(Kit.NOTHING, 99, 1);
    drawn(Kit.NOTHING, 100, 0);
    drawn(Kit.NOTHING, 199, 0);
    drawn(of(0, 0), 0, 1);
    drawn(of(0, 0), 99, 3);
    drawn(of(0, 0), 100, 0);
    drawn(of(0, 0), 199, 1);
    drawn(of(0, 99), 0, 3);
    drawn(of(0, 99), 99, 1);
    drawn(of(0, 99), 100, 1);
    drawn(of(0, 99), 199, 0);
  }

  private static void p28TheUpper31BitsHaveNoSign() {
    // 2147483647 leaves 47 by 200, 1073741824 leaves 24
    oneRound(of(0, 47), -1L, 1);
    oneRound(of(0, 46), -1L, 3);
    oneRound(of(0, 24), Long.MIN_VALUE, 1);
    oneRound(of(0, 23), Long.MIN_VALUE, 3);
    // 1073741823 leaves 23
    oneRound(of(0, 23), Long.MAX_VALUE, 1);
    oneRound(of(0, 24), Long.MAX_VALUE, 3);
  }

  private static void p28AFullMapTakesNoMore() {
    long looks = new Kit.Run(Kit.FULL_0).call("about", 0, 5);
    drawn(Kit.FULL_0, 1, looks);
    drawn(Kit.FULL_0, 99, looks);
    drawn(Kit.FULL_0, 78, looks);
    drawn(Kit.FULL_0, 101, looks);
    drawn(Kit.FULL_0, 178, new Kit.Run(Kit.FULL_0).call("would", 0, 78, 2));
    drawn(Kit.OF_39, 99, new Kit.Run(Kit.OF_39).call("would", 0, 99, 2));
  }

  private static void p28NothingChangesButTheSeed() {
    for (Kit.Scene scene : new Kit.Scene[] {Kit.BUSY, Kit.FULL_0, Kit.NOTHING}) {
      Kit.Scene after = Kit.then(scene, run -> {
        long seed = run.call("seed", 0L);
        run.call("seed", seed);
        run.call("rounds", 0, 30);
        run.call("rounds", 1, 1);
        run.call("seed", seed);
      });
      Kit.dueText("what is told after rounds", Kit.tale(after), Kit.tale(scene));
    }
  }

  private static void p28EachTimeTogether() {
    Kit.Run told = new Kit.Run(Kit.BUSY);
    long seed = told.call("seed", 0L);
    Kit.Run own = new Kit.Run(Kit.BUSY);
    long all = 0;
    for (int m = 1; m <= 30; m++) {
      seed = stepped(seed, 1);
      int left = (int) (Long.divideUnsigned(seed, 1L << 33) % 200);
      own.call(left < 100 ? "put" : "remove", left < 100
          ? new Object[] {0, left, 0} : new Object[] {0, left - 100});
      all += own.call("about", 0, 5);
      told.call("seed", 77L);
      Kit.due(m + " rounds", told.call("rounds", 0, m), all);
    }
  }

  // ---------------------------------------------------------------- 29: keep

  private static void p29Slots0And1() {
    Kit.bounds(Kit.BUSY, UNKNOWN, 0, 0, 1, "keep", 0);
    Kit.bounds(Kit.NOTHING, UNKNOWN, 0, 0, 1, "keep", 0);
  }

  private static void p29FromNoneTo80() {
    Kit.taken(Kit.NOTHING, 0, "keep", 0);
    Kit.taken(Kit.BUSY, 12, "keep", 0);
    Kit.taken(Kit.FULL_0, 42, "keep", 1);
    Kit.taken(Kit.BOTH_FULL, 80, "keep", 1);
  }

  private static void p29KeepIsNoAct() {
    Kit.Run run = new Kit.Run(Kit.BUSY);
    run.call("keep", 0);
    Kit.due("acts", run.call("count", 0), 14);
    Kit.due("undo", run.call("undo"), 13);
  }

  private static void p29WhatIsKeptStays() {
    Kit.Run run = new Kit.Run();
    run.put(0, 1);
    run.call("keep", 0);
    run.put(0, 2);
    run.call("keep", 1);
    run.call("put", 0, 1, 5);
    run.call("undo");
    run.call("undo");
    Kit.due("slot 1", run.call("again", 1), 2);
    Kit.dueText("values", run.row(0, 1), "10 20");
    Kit.due("slot 0", run.call("again", 0), 1);
    run.call("keep", 1);
    Kit.due("slot 1, kept anew", run.call("again", 1), 1);
  }

  // ---------------------------------------------------------------- 30: again

  private static void p30Slots0And1() {
    Kit.bounds(Kit.BUSY, UNKNOWN, 0, 0, 1, "again", 0);
  }

  private static void p30NoneKeptIsLate() {
    Kit.refused(Kit.NOTHING, LATE, "again", 0);
    Kit.refused(Kit.NOTHING, LATE, "again", 1);
    Kit.Scene first = Kit.then(of(0, 1), run -> run.call("keep", 0));
    Kit.refused(first, LATE, "again", 1);
    Kit.taken(first, 1, "again", 0);
    Kit.Scene second = Kit.then(of(0, 1), run -> run.call("keep", 1));
    Kit.refused(second, LATE, "again", 0);
    Kit.taken(second, 1, "again", 1);
  }

  private static void p30UnknownIsToldAheadOfLate() {
    for (int slot : NO_MAPS) {
      Kit.refused(Kit.NOTHING, UNKNOWN, "again", slot);
    }
  }

  private static void p30NothingThatWasKeptIsNotLate() {
    Kit.Scene nothing = Kit.then(run -> run.call("keep", 0), of(0, 1));
    Kit.taken(nothing, 0, "again", 0);
    Kit.Run run = new Kit.Run(nothing);
    run.call("again", 0);
    Kit.due("items", run.call("about", 0, 0), 0);
  }

  private static void p30From80() {
    Kit.Run run = new Kit.Run(Kit.BOTH_FULL);
    String heights = run.heights(1);
    run.call("cut", 0, 0, 99);
    Kit.due("again", run.call("again", 1), 80);
    Kit.dueText("heights", run.heights(1), heights);
    Kit.due("full", run.call("put", 0, 1, 0), FULL);
  }

  private static void p30NoActsWhenOneGoesOn() {
    Kit.Run run = new Kit.Run(Kit.BUSY);
    run.call("again", 1);
    Kit.due("acts", run.call("count", 0), 0);
    Kit.due("undo", run.call("undo"), LATE);
    run.put(0, 99);
    Kit.due("acts", run.call("count", 0), 1);
    Kit.due("undo", run.call("undo"), 0);
    Kit.due("undo", run.call("undo"), LATE);
  }

  private static void p30BothMapsAloneAreKept() {
    Kit.Run run = new Kit.Run(Kit.BUSY);
    run.call("wipe");
    run.call("unseek");
    run.call("seed", 1L);
    Kit.due("again", run.call("again", 1), 9);
    Kit.dueText("map 0", run.keys(0), "10 20 30 40 50 60 70 80 90");
    Kit.dueText("map 1", run.keys(1), "");
    Kit.due("letters", run.call("count", 2), 0);
    Kit.due("sought", run.call("count", 1), 0);
    Kit.due("the seed", run.call("seed", 0L), 1);
  }

  // ---------------------------------------------------------------- 31: count

  private static void p31What0To2() {
    Kit.bounds(Kit.BUSY, BAD, 0, 0, 2, "count", 0);
    Kit.bounds(Kit.NOTHING, BAD, 0, 0, 2, "count", 0);
  }

  private static void p31AtMost14ActsAnd6SoughtAnd64Letters() {
    Kit.Run run = new Kit.Run();
    for (int i = 1; i <= 80; i++) {
      run.call("put", 0, 5, i);
      run.call("seek", 0, 1, 1);
      run.call("write", i);
      Kit.due("acts", run.call("count", 0), Math.min(i, 14));
      Kit.due("sought", run.call("count", 1), Math.min(i, 6));
      Kit.due("letters", run.call("count", 2), Math.min(i, 64));
    }
  }

  private static void p31DownToNone() {
    Kit.Run run = new Kit.Run(Kit.BUSY);
    for (int acts = 13; acts >= 0; acts--) {
      run.call("undo");
      Kit.due("acts", run.call("count", 0), acts);
    }
    run.call("undo");
    Kit.due("acts", run.call("count", 0), 0);
    run.call("unseek");
    Kit.due("sought", run.call("count", 1), 0);
    run.call("wipe");
    Kit.due("letters", run.call("count", 2), 0);
  }
}
