import java.util.Arrays;

/** The bounds of acts, promises 6 to 9, each as a case of its own. */
public final class BoundsActsTest {
  private static final int UNKNOWN = Kit.UNKNOWN, BAD = Kit.BAD, LATE = Kit.LATE;
  private static final int FULL = Kit.FULL, NONE = Kit.NONE;
  private static final int[] NO_MAPS = {-1, 2, Kit.MIN, Kit.MAX};
  private static final int[] NO_KEYS = {-1, 100, Kit.MIN, Kit.MAX};
  private static final int[] NO_VALUES = {-1, 1000000, Kit.MIN, Kit.MAX};

  public static void main(String[] args) {
    Kit.play(BoundsActsTest.class, 6, 9);
  }

  // ---------------------------------------------------------------- 6: put

  private static void p06Maps() {
    Kit.mapBounds(Kit.BUSY, "put", 0, 11, 1);
    Kit.taken(Kit.BUSY, 10, "put", 0, 11, 1);
    Kit.taken(Kit.BUSY, 4, "put", 1, 11, 1);
  }

  private static void p06Keys0To99() {
    Kit.keyBounds(Kit.BUSY, 1, "put", 0, 0, 1);
    Kit.keyBounds(Kit.NOTHING, 1, "put", 1, 0, 1);
  }

  private static void p06Values0To999999() {
    Kit.bounds(Kit.BUSY, BAD, 2, 0, 999999, "put", 0, 11, 0);
    // of a key that is there too
    Kit.bounds(Kit.BUSY, BAD, 2, 0, 999999, "put", 0, 50, 0);
    Kit.Run run = new Kit.Run();
    run.call("put", 0, 0, 999999);
    run.call("put", 0, 99, 0);
    Kit.due("the greatest value", run.call("get", 0, 0), 999999);
    Kit.due("the least value", run.call("get", 0, 99), 0);
  }

  private static void p06The40thIsTakenThe41stIsNot() {
    Kit.taken(Kit.OF_39, 40, "put", 0, 1, 0);
    Kit.taken(Kit.OF_39, 40, "put", 0, 99, 0);
    Kit.refused(Kit.FULL_0, FULL, "put", 0, 1, 0);
    Kit.refused(Kit.FULL_0, FULL, "put", 0, 99, 999999);
    Kit.refused(Kit.FULL_1, FULL, "put", 1, 1, 0);
    Kit.refused(Kit.BOTH_FULL, FULL, "put", 1, 79, 0);
  }

  private static void p06AFullMapLetsTheOtherOneBe() {
    Kit.taken(Kit.FULL_0, 3, "put", 1, 2, 0);
    Kit.taken(Kit.FULL_1, 3, "put", 0, 2, 0);
    Kit.taken(Kit.BOTH_FULL, 40, "about", 0, 0);
    Kit.taken(Kit.BOTH_FULL, 40, "about", 1, 0);
  }

  private static void p06InAFullMapOneThatIsThereIsTaken() {
    for (int key : new int[] {0, 40, 78}) {
      Kit.Run run = new Kit.Run(Kit.FULL_0);
      String heights = run.heights(0);
      Kit.due("put", run.call("put", 0, key, 5), 40);
      Kit.due("its value", run.call("get", 0, key), 5);
      Kit.dueText("heights", run.heights(0), heights);
    }
  }

  private static void p06WhatIsToldFirst() {
    for (int key : NO_KEYS) {
      Kit.refused(Kit.FULL_0, UNKNOWN, "put", 0, key, -1);
    }
    for (int map : NO_MAPS) {
      Kit.refused(Kit.FULL_0, UNKNOWN, "put", map, 1, -1);
    }
    for (int value : NO_VALUES) {
      Kit.refused(Kit.FULL_0, BAD, "put", 0, 1, value);
    }
  }

  private static void p06IntoAMapOfNothing() {
    Kit.Run run = new Kit.Run();
    Kit.due("put", run.call("put", 0, 50, 7), 1);
    Kit.due("top", run.call("about", 0, 1), 1);
    Kit.due("height", run.call("item", 0, 0, 2), 0);
  }

  private static void p06OneThatIsThereGetsItsValueAlone() {
    Kit.Run run = new Kit.Run(Kit.shaped(0, "0001000"));
    Kit.due("put in a full gap", run.call("put", 0, 4, 9), 7);
    Kit.dueText("heights", run.heights(0), "0001000");
    Kit.dueText("values", run.row(0, 1), "0 9 0 0 0 0 0");
    Kit.due("it is an act", run.call("count", 0), 2);
  }

  private static void heightsAfterPut(String heights, int key, String want) {
    Kit.Run run = new Kit.Run(Kit.shaped(0, heights));
    run.call("put", 0, key, 0);
    Kit.dueText("put " + key + " in " + heights, run.heights(0), want);
  }

  private static void p06AGapOfTwoIsLeftAGapOfThreeIsParted() {
    heightsAfterPut("0", 9, "00");
    heightsAfterPut("00", 9, "000");
    heightsAfterPut("000", 9, "0100");
    heightsAfterPut("000", 1, "0010");
    heightsAfterPut("000", 3, "0010");
    heightsAfterPut("000", 5, "0100");
    heightsAfterPut("001000", 1, "0001000");
    heightsAfterPut("000100", 1, "0010100");
  }

  private static void p06FullGapsArePartedFromTheTopDown() {
    heightsAfterPut("000100010001000", 99, "0001000200010100");
    heightsAfterPut("000100010001000", 0, "0010100020001000");
    // a full gap in which the place does not lie is left
    heightsAfterPut("00010001000100", 99, "000100020001000");
    heightsAfterPut("00010001000", 99, "000100010100");
  }

  private static void p06PlacesAtBothEnds() {
    Kit.Run run = new Kit.Run(Kit.BUSY);
    run.call("put", 0, 99, 1);
    run.call("put", 0, 0, 2);
    Kit.dueText("keys", run.keys(0), "0 10 20 30 40 50 60 70 80 90 99");
  }

  // ---------------------------------------------------------------- 7: remove

  private static void p07Maps() {
    Kit.mapBounds(Kit.BUSY, "remove", 0, 60);
  }

  private static void p07Keys0To99() {
    Kit.keyBounds(Kit.ENDS, 1, "remove", 0, 0);
    Kit.keyBounds(Kit.ENDS, 1, "remove", 1, 0);
    Kit.taken(Kit.ENDS, 990, "remove", 0, 99);
    Kit.taken(Kit.ENDS, 0, "remove", 0, 0);
  }

  private static void p07WhatIsNotThereIsLate() {
    Kit.refused(Kit.BUSY, LATE, "remove", 0, 0);
    Kit.refused(Kit.BUSY, LATE, "remove", 0, 99);
    Kit.refused(Kit.BUSY, LATE, "remove", 0, 59);
    Kit.refused(Kit.BUSY, LATE, "remove", 0, 61);
    Kit.refused(Kit.BUSY, LATE, "remove", 1, 10);
    Kit.refused(Kit.NOTHING, LATE, "remove", 0, 0);
    Kit.refused(Kit.FULL_0, LATE, "remove", 0, 1);
  }

  private static void p07UnknownIsToldAheadOfLate() {
    for (int map : NO_MAPS) {
      Kit.refused(Kit.BUSY, UNKNOWN, "remove", map, 11);
    }
    for (int key : NO_KEYS) {
      Kit.refused(Kit.NOTHING, UNKNOWN, "remove", 0, key);
    }
  }

  private static void p07ValuesAtTheEnds() {
    Kit.Run run = new Kit.Run();
    run.call("put", 0, 1, 0);
    run.call("put", 0, 2, 999999);
    Kit.due("value 0", run.call("remove", 0, 1), 0);
    Kit.due("value 999999", run.call("remove", 0, 2), 999999);
  }

  private static void p07TheOnlyOne() {
    Kit.Run run = new Kit.Run();
    run.put(1, 50);
    Kit.due("remove", run.call("remove", 1, 50), 500);
    Kit.due("items", run.call("about", 1, 0), 0);
    Kit.due("top", run.call("about", 1, 1), 0);
    Kit.due("twice", run.call("remove", 1, 50), LATE);
    Kit.due("acts", run.call("count", 0), 2);
  }

  private static void p07OneOf40() {
    Kit.Run run = new Kit.Run(Kit.FULL_0);
    Kit.due("remove", run.call("remove", 0, 78), 780);
    Kit.due("items", run.call("about", 0, 0), 39);
    Kit.due("there is room again", run.call("put", 0, 99, 0), 40);
  }

  private static void p07All40() {
    for (int step : new int[] {1, 3, 7, 39}) {
      Kit.Run run = new Kit.Run(Kit.FULL_0);
      for (int i = 0; i < 40; i++) {
        int key = 2 * (i * step % 40);
        Kit.due("remove " + key, run.call("remove", 0, key), 10 * key);
      }
      Kit.due("items", run.call("about", 0, 0), 0);
      Kit.due("top", run.call("about", 0, 1), 0);
    }
  }

  private static void heightsAfterRemove(String heights, int key, String want) {
    Kit.Run run = new Kit.Run(Kit.shaped(0, heights));
    run.call("remove", 0, key);
    Kit.dueText("remove " + key + " of " + heights, run.heights(0), want);
  }

  private static void p07AGapOfTwoIsNotHelpedAGapOfOneIs() {
    heightsAfterRemove("0010", 2, "010");
    heightsAfterRemove("0010", 4, "010");
    heightsAfterRemove("010", 2, "00");
    heightsAfterRemove("010", 6, "00");
  }

  private static void p07TheGapAtTheTopIsNotHelped() {
    heightsAfterRemove("00", 2, "0");
    heightsAfterRemove("00", 4, "0");
    heightsAfterRemove("0", 2, "");
  }

  private static void p07ANeighbourOfOneIsJoinedOfTwoOrThreeHelps() {
    heightsAfterRemove("010", 2, "00");
    heightsAfterRemove("0100", 2, "010");
    heightsAfterRemove("01000", 2, "0100");
    heightsAfterRemove("010", 6, "00");
    heightsAfterRemove("0010", 8, "010");
    heightsAfterRemove("00010", 10, "0010");
  }

  private static void p07TheFenceBehindIsTakenIfItCanBe() {
    // both neighbours could help: the one behind does
    heightsAfterRemove("0010100", 8, "001010");
    // the fence behind has another height: the one ahead is taken
    heightsAfterRemove("0010102010", 12, "001002010");
    heightsAfterRemove("0100102010", 12, "010102010");
    // there is none behind
    heightsAfterRemove("0010010", 14, "001010");
  }

  private static void p07AHighOneChangesWithTheNext() {
    Kit.Run run = new Kit.Run(Kit.shaped(0, "01000"));
    run.call("remove", 0, 4);
    Kit.dueText("keys", run.keys(0), "2 6 8 10");
    Kit.dueText("heights", run.heights(0), "0100");
    // the next one was alone in its gap
    heightsAfterRemove("0010", 6, "010");
    heightsAfterRemove("010", 4, "00");
    heightsAfterRemove("0102010", 8, "010100");
  }

  private static void p07TheTopFalls() {
    Kit.Run run = new Kit.Run(Kit.shaped(0, "0102010"));
    Kit.due("top", run.call("about", 0, 1), 3);
    run.call("remove", 0, 2);
    Kit.due("top", run.call("about", 0, 1), 2);
    Kit.dueText("heights", run.heights(0), "001010");
  }

  // ---------------------------------------------------------------- 8: cut

  private static void p08Maps() {
    Kit.mapBounds(Kit.BUSY, "cut", 0, 20, 60);
  }

  private static void p08Keys0To99() {
    Kit.keyBounds(Kit.BUSY, 1, "cut", 0, 0, 99);
    Kit.keyBounds(Kit.BUSY, 2, "cut", 0, 0, 99);
    Kit.keyBounds(Kit.BUSY, 1, "cut", 1, 0, 99);
    Kit.keyBounds(Kit.BUSY, 2, "cut", 1, 0, 99);
  }

  private static void p08AMayBeBButNotMore() {
    Kit.taken(Kit.BUSY, 1, "cut", 0, 50, 50);
    Kit.taken(Kit.BUSY, 0, "cut", 0, 51, 51);
    Kit.taken(Kit.BUSY, 1, "cut", 0, 50, 51);
    Kit.refused(Kit.BUSY, BAD, "cut", 0, 51, 50);
    Kit.refused(Kit.BUSY, BAD, "cut", 0, 99, 0);
    Kit.refused(Kit.NOTHING, BAD, "cut", 1, 1, 0);
  }

  private static void p08WhatIsToldFirst() {
    for (int key : NO_KEYS) {
      Kit.refused(Kit.BUSY, UNKNOWN, "cut", 0, key, 0);
      Kit.refused(Kit.BUSY, UNKNOWN, "cut", 0, 99, key);
      Kit.refused(Kit.FULL_0, UNKNOWN, "cut", 1, 0, key);
    }
    for (int map : NO_MAPS) {
      Kit.refused(Kit.BUSY, UNKNOWN, "cut", map, 51, 50);
    }
    Kit.refused(Kit.FULL_0, BAD, "cut", 1, 99, 0);
    Kit.refused(Kit.FULL_0, BAD, "cut", 1, 2, 1);
  }

  private static void p08BothEndsAreCutOutTheNextOnesAreNot() {
    Kit.Run run = new Kit.Run(Kit.BUSY);
    Kit.due("cut", run.call("cut", 0, 30, 50), 3);
    Kit.dueText("left", run.keys(0), "10 20 60 70 80 90");
    Kit.dueText("spliced", run.keys(1), "5 30 40 45 50 60");
    run = new Kit.Run(Kit.BUSY);
    Kit.due("cut between", run.call("cut", 0, 31, 49), 1);
    Kit.dueText("left", run.keys(0), "10 20 30 50 60 70 80 90");
  }

  private static void p08AllOfAMap() {
    Kit.Run run = new Kit.Run(Kit.ENDS);
    Kit.due("cut", run.call("cut", 0, 0, 99), 11);
    Kit.due("left", run.call("about", 0, 0), 0);
    Kit.due("top", run.call("about", 0, 1), 0);
    Kit.dueText("spliced", run.keys(1), "0 5 10 20 30 40 45 50 60 70 80 90 99");
  }

  private static void p08NoneIsAnAct() {
    Kit.Run run = new Kit.Run();
    Kit.due("of nothing", run.call("cut", 0, 0, 99), 0);
    Kit.due("acts", run.call("count", 0), 1);
    run.put(1, 5);
    Kit.due("of the other", run.call("cut", 0, 0, 99), 0);
    Kit.due("acts", run.call("count", 0), 3);
    Kit.due("undo", run.call("undo"), 2);
    Kit.dueText("the other map", run.keys(1), "5");
  }

  private static void p08Exactly40IsTaken41IsNot() {
    Kit.taken(Kit.OF_38, 2, "cut", 1, 0, 99);
    Kit.refused(Kit.OF_39, FULL, "cut", 1, 0, 99);
    Kit.taken(Kit.OF_39, 1, "cut", 1, 0, 98);
    Kit.taken(Kit.OF_39, 1, "cut", 1, 2, 99);
    Kit.refused(Kit.FULL_0, FULL, "cut", 1, 1, 1);
    Kit.refused(Kit.FULL_1, FULL, "cut", 0, 99, 99);
    Kit.taken(Kit.FULL_0, 0, "cut", 1, 2, 98);
    Kit.Run run = new Kit.Run(Kit.OF_38);
    run.call("cut", 1, 0, 99);
    Kit.due("items", run.call("about", 0, 0), 40);
  }

  private static void p08AFullMapIntoTheOther() {
    // the other one has 1 and 99: 38 more go in, 39 do not
    Kit.taken(Kit.FULL_0, 38, "cut", 0, 0, 74);
    Kit.refused(Kit.FULL_0, FULL, "cut", 0, 0, 76);
    Kit.refused(Kit.FULL_0, FULL, "cut", 0, 0, 99);
    Kit.taken(Kit.OF_38, 38, "cut", 0, 0, 99);
    Kit.taken(Kit.OF_39, 38, "cut", 0, 2, 99);
  }

  private static void p08KeysThatAreThereAlreadyTakeNoRoom() {
    Kit.Run run = new Kit.Run(Kit.BOTH_FULL);
    run.call("put", 0, 78, 5);
    Kit.due("40 into 40", run.call("cut", 0, 0, 99), 40);
    Kit.due("left", run.call("about", 0, 0), 0);
    Kit.due("items", run.call("about", 1, 0), 40);
    Kit.due("the moved value", run.call("get", 1, 78), 5);
    Kit.Scene oneOther = Kit.then(Kit.BOTH_FULL, r -> {
      r.call("remove", 0, 40);
      r.put(0, 41);
    });
    Kit.refused(oneOther, FULL, "cut", 0, 0, 99);
    Kit.refused(oneOther, FULL, "cut", 1, 0, 99);
    Kit.refused(oneOther, FULL, "cut", 0, 41, 41);
    Kit.taken(oneOther, 20, "cut", 0, 0, 40);
    Kit.taken(oneOther, 19, "cut", 0, 42, 99);
  }

  // ---------------------------------------------------------------- 9: undo

  private static void p09NoneIsLate() {
    Kit.refused(Kit.NOTHING, LATE, "undo");
    Kit.refused(Kit.then(Kit.BUSY, run -> run.call("again", 0)), LATE, "undo");
    Kit.Scene allUndone = Kit.then(Kit.BUSY, run -> {
      for (int i = 13; i >= 0; i--) {
        Kit.due("undo", run.call("undo"), i);
      }
    });
    Kit.refused(allUndone, LATE, "undo");
  }

  private static void p09OneAct() {
    Kit.Run run = new Kit.Run();
    run.put(0, 1);
    Kit.due("undo", run.call("undo"), 0);
    Kit.due("items", run.call("about", 0, 0), 0);
    Kit.due("undo", run.call("undo"), LATE);
  }

  private static void undoneAfter(int acts, int left) {
    Kit.Run run = new Kit.Run();
    for (int i = 0; i < acts; i++) {
      run.put(0, i);
    }
    int held = Math.min(acts, 14);
    Kit.due("acts of " + acts, run.call("count", 0), held);
    for (int i = held - 1; i >= 0; i--) {
      Kit.due("undo of " + acts, run.call("undo"), i);
    }
    Kit.due("one undo more", run.call("undo"), LATE);
    Kit.due("items that stay of " + acts, run.call("about", 0, 0), left);
  }

  private static void p09The15thActForgetsTheFirst() {
    undoneAfter(13, 0);
    undoneAfter(14, 0);
    undoneAfter(15, 1);
    undoneAfter(16, 2);
    undoneAfter(28, 14);
    undoneAfter(29, 15);
    undoneAfter(40, 26);
  }

  private static void p09EveryKindOfActForgetsTheFirst() {
    Object[][] acts = {{"put", 0, 11, 1}, {"put", 0, 10, 1}, {"remove", 0, 10},
        {"cut", 0, 0, 99}, {"cut", 0, 1, 2}, {"shape", 0}};
    for (Object[] act : acts) {
      Object[] args = Arrays.copyOfRange(act, 1, act.length);
      Kit.Run run = new Kit.Run(Kit.BUSY);
      String before = run.keys(0) + "|" + run.row(0, 1) + "|" + run.heights(0) + "|" + run.keys(1);
      run.call((String) act[0], args);
      Kit.due("acts after " + act[0], run.call("count", 0), 14);
      Kit.due("undo " + act[0], run.call("undo"), 13);
      Kit.dueText("undone " + act[0],
          run.keys(0) + "|" + run.row(0, 1) + "|" + run.heights(0) + "|" + run.keys(1), before);
    }
  }

  private static void p09RefusedCallsAreNoActs() {
    Kit.Run run = new Kit.Run(Kit.FULL_0);
    Object[][] refused = {{"put", 0, 1, 0}, {"put", 0, 0, -1}, {"put", 0, 100, 0},
        {"remove", 0, 1}, {"remove", 2, 0}, {"cut", 0, 5, 4}, {"cut", 1, 0, 99}, {"shape", 2}};
    for (Object[] call : refused) {
      run.call((String) call[0], Arrays.copyOfRange(call, 1, call.length));
    }
    Kit.due("the last put is undone", run.call("undo"), 13);
    Kit.due("greatest key", run.call("about", 0, 4), 76);
  }

  private static void p09OnlyActsAreUndone() {
    Kit.Run run = new Kit.Run(Kit.BUSY);
    run.call("undo");
    Kit.due("letters", run.call("count", 2), 10);
    Kit.due("sought", run.call("count", 1), 2);
    Kit.due("the seed", run.call("seed", 0L), 77);
    Kit.due("slot 0", run.call("again", 0), 1);
  }

  private static void p09ActsAfterUndo() {
    Kit.Run run = new Kit.Run();
    run.put(0, 1, 2, 3);
    run.call("undo");
    run.call("undo");
    run.put(0, 9);
    Kit.due("acts", run.call("count", 0), 2);
    Kit.dueText("keys", run.keys(0), "1 9");
    run.call("undo");
    Kit.dueText("keys", run.keys(0), "1");
    Kit.due("undo", run.call("undo"), 0);
    Kit.due("none", run.call("about", 0, 3), NONE);
  }
}
