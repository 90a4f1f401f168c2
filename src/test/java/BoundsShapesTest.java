/** The bounds of a new object and of shapes, promises 1 to 5, each as a case of its own. */
public final class BoundsShapesTest {
  private static final int UNKNOWN = Kit.UNKNOWN, BAD = Kit.BAD, LATE = Kit.LATE;
  private static final int FULL = Kit.FULL, NONE = Kit.NONE;
  /** 21 items, 64 letters: no shape is longer. */
  private static final String LONGEST = "000100010002000100010";

  private static final Kit.Scene TEXT_63 = run -> {
    Kit.BUSY.play(run);
    run.call("wipe");
    run.tell(Kit.text(LONGEST).substring(0, 63));
  };
  private static final Kit.Scene TEXT_64 = run -> {
    TEXT_63.play(run);
    run.call("write", (int) '0');
  };

  public static void main(String[] args) {
    Kit.play(BoundsShapesTest.class, 1, 5);
  }

  private static Kit.Scene busyWith(String text) {
    return run -> {
      Kit.BUSY.play(run);
      run.call("wipe");
      run.tell(text);
    };
  }

  // ---------------------------------------------------------------- 1: a new object

  private static void p01TwoMapsOfNothing() {
    int[] due = {0, 0, 0, NONE, NONE, 0};
    for (int map = 0; map < 2; map++) {
      for (int what = 0; what < due.length; what++) {
        Kit.quiet(Kit.NOTHING, due[what], "about", map, what);
      }
      Kit.refused(Kit.NOTHING, UNKNOWN, "item", map, 0, 0);
    }
  }

  private static void p01NothingIsKeptWrittenSoughtOrDone() {
    for (int n = 0; n < 3; n++) {
      Kit.quiet(Kit.NOTHING, 0, "count", n);
    }
    Kit.refused(Kit.NOTHING, LATE, "undo");
    Kit.refused(Kit.NOTHING, LATE, "again", 0);
    Kit.refused(Kit.NOTHING, LATE, "again", 1);
    Kit.quiet(Kit.NOTHING, 0, "fault");
    Kit.quiet(Kit.NOTHING, 0, "wipe");
    Kit.quiet(Kit.NOTHING, 0, "unseek");
    Kit.quiet(Kit.NOTHING, 0, "seed", 0L);
  }

  private static void p01OneObjectKnowsNothingOfAnother() {
    String before = Kit.tale(Kit.NOTHING);
    Kit.Run other = new Kit.Run(Kit.BOTH_FULL);
    Kit.dueText("a new object", Kit.tale(Kit.NOTHING), before);
    Kit.due("the other one", other.call("about", 0, 0), 40);
  }

  private static void p01The512thCallIsStillAnswered() {
    Kit.Run run = new Kit.Run();
    for (int i = 0; run.callsLeft() > 3; i++) {
      run.call(i % 2 == 0 ? "put" : "get", i % 2 == 0
          ? new Object[] {0, i / 2 % 40, i} : new Object[] {0, i / 2 % 40});
    }
    Kit.due("items", run.call("about", 0, 0), 40);
    Kit.due("acts", run.call("count", 0), 14);
    Kit.due("the 512th call", run.call("undo"), 13);
  }

  private static void p01NoCallOf512IsRefusedForItsNumber() {
    Kit.Run run = new Kit.Run();
    for (int i = 0; i < Kit.CALLS; i++) {
      Kit.due("call " + i, run.call("put", 1, i % 40, i), Math.min(i + 1, 40));
    }
  }

  // ---------------------------------------------------------------- 2: write

  private static void p02Letters0To255() {
    Kit.bounds(Kit.BUSY, BAD, 0, 0, 255, "write", 0);
    Kit.bounds(Kit.NOTHING, BAD, 0, 0, 255, "write", 0);
    Kit.taken(Kit.NOTHING, 1, "write", 0);
    Kit.taken(Kit.NOTHING, 1, "write", 255);
  }

  private static void p02NoLetterIsCutToEightBits() {
    Kit.refused(Kit.NOTHING, BAD, "write", 256 + 'L');
    Kit.refused(Kit.NOTHING, BAD, "write", 65536 + 'L');
    Kit.refused(Kit.NOTHING, BAD, "write", 'L' - 256);
  }

  private static void p02The64thLetterIsTakenThe65thIsNot() {
    Kit.taken(TEXT_63, 64, "write", (int) '0');
    Kit.refused(TEXT_64, FULL, "write", (int) '0');
    Kit.refused(TEXT_64, FULL, "write", 0);
    Kit.refused(TEXT_64, FULL, "write", 255);
    Kit.taken(TEXT_64, 64, "count", 2);
  }

  private static void p02BadIsToldAheadOfFull() {
    for (int letter : new int[] {-1, 256, Kit.MIN, Kit.MAX}) {
      Kit.refused(TEXT_64, BAD, "write", letter);
    }
  }

  private static void p02BehindARefusedLetterTheNextOneFits() {
    Kit.Run run = new Kit.Run();
    run.call("write", -1);
    run.call("write", 256);
    Kit.due("the first letter", run.call("write", (int) 'L'), 1);
    Kit.due("the text", run.call("fault"), NONE);
  }

  // ---------------------------------------------------------------- 3: wipe

  private static void p03AnEmptyText() {
    Kit.taken(Kit.NOTHING, 0, "wipe");
    Kit.taken(busyWith(""), 0, "wipe");
    Kit.unchanged(busyWith(""), "wipe");
  }

  private static void p03AFullText() {
    Kit.taken(TEXT_64, 64, "wipe");
    Kit.Run run = new Kit.Run(TEXT_64);
    run.call("wipe");
    Kit.due("length", run.call("count", 2), 0);
    Kit.due("fault of nothing", run.call("fault"), 0);
    Kit.due("there is room again", run.call("write", (int) 'L'), 1);
    Kit.due("nothing of the old text is left", run.call("shape", 0), 0);
  }

  private static void p03WipeIsNoAct() {
    Kit.Run run = new Kit.Run(Kit.BUSY);
    run.call("wipe");
    Kit.due("acts", run.call("count", 0), 14);
    run.call("undo");
    Kit.due("undo brings no letters back", run.call("count", 2), 0);
  }

  // ---------------------------------------------------------------- 4: fault

  private static void faultIs(String text, int want) {
    Kit.Run run = new Kit.Run();
    run.tell(text);
    Kit.due("fault of " + text, run.call("fault"), want);
    Kit.due("fault of " + text + ", told again", run.call("fault"), want);
  }

  /** Behind a text each of all letters: those between low and high are fine, no other. */
  private static void oneMore(String text, int low, int high, int fine) {
    for (int letter = 0; letter < 256; letter++) {
      boolean fits = letter >= low && letter <= high;
      faultIs(text + (char) letter, fits ? fine : text.length());
    }
  }

  private static void p04OfNothing() {
    Kit.quiet(Kit.NOTHING, 0, "fault");
  }

  private static void p04TheFirstLetterIsL() {
    oneMore("", 'L', 'L', NONE);
  }

  private static void p04AFirstHeightIs0() {
    oneMore("L", '0', '0', 2);
  }

  private static void p04Steps1To4() {
    oneMore("L0", '1', '4', 3);
    oneMore("L0491", '1', '4', 6);
  }

  private static void p04Values0To9() {
    oneMore("L01", '0', '9', NONE);
    oneMore("L04", '0', '9', NONE);
  }

  private static void p04AGapHasOneAtLeast() {
    // ahead of a fence none has been yet; behind one there must be another
    faultIs("L1", 1);
    faultIs("L120", 1);
    faultIs(Kit.text("01") + "1", 7);
    faultIs(Kit.text("01"), 7);
    faultIs(Kit.text("010"), NONE);
    oneMore(Kit.text("0"), '0', '1', 5);
    oneMore(Kit.text("01"), '0', '0', 8);
  }

  private static void p04AGapHasThreeAtMost() {
    faultIs(Kit.text("000"), NONE);
    oneMore(Kit.text("000"), '1', '1', 11);
    faultIs(Kit.text("0000"), 10);
    faultIs(Kit.text("0001000"), NONE);
    faultIs(Kit.text("00010000"), 22);
  }

  /** Behind a row of heights each of all letters: only those that fit are fine. */
  private static void nextHeights(String heights, String fitting) {
    String text = Kit.text(heights);
    for (int letter = 0; letter < 256; letter++) {
      boolean fits = fitting.indexOf((char) letter) >= 0;
      faultIs(text + (char) letter, text.length() + (fits ? 1 : 0));
    }
  }

  private static void p04AGapOfHigherOnesHasThreeAtMost() {
    faultIs(Kit.text("0101010"), NONE);
    nextHeights("01010", "012");
    nextHeights("0101010", "02");
    faultIs(Kit.text("010201020102010"), NONE);
    nextHeights("01020102010", "0123");
    nextHeights("010201020102010", "013");
  }

  private static void p04NoLevelIsLeftOut() {
    faultIs(Kit.text("010") + "2", 11);
    faultIs(Kit.text("010") + "3", 10);
    faultIs(Kit.text("0102010") + "3", 23);
    faultIs(Kit.text("0102010") + "4", 22);
    faultIs(Kit.text("01020") + "2", 16);
    faultIs(Kit.text("0102"), 13);
    faultIs(Kit.text("01020"), 16);
    faultIs(Kit.text("010201"), 19);
    faultIs(Kit.text("0102010"), NONE);
  }

  private static void p04Heights4And5And6() {
    // 4 can be, if more letters than 64 could come; 5 needs 31 items ahead of it
    faultIs(Kit.text("010201030102010"), NONE);
    faultIs(Kit.text("010201030102010") + "4", 47);
    faultIs(Kit.text("010201030102010") + "5", 46);
    faultIs(Kit.text("010201030102010") + "6", 46);
    faultIs(Kit.text("01020103010201") + "4", 43);
    faultIs(Kit.text("0102010301020104"), 49);
    faultIs(Kit.text("0102010301020104") + "4", 49);
  }

  private static void p04ItsLengthIfOnlyNotAtItsEnd() {
    faultIs("L0", 2);
    faultIs("L04", 3);
    faultIs("L0490", 5);
    faultIs("L04903", 6);
    faultIs("L049039", NONE);
  }

  private static void p04Of64Letters() {
    faultIs(Kit.text(LONGEST), NONE);
    faultIs(Kit.text("010201030102010300010"), 64);
    faultIs(Kit.text("001020010300102000104"), 64);
    faultIs(Kit.text(LONGEST).substring(0, 63), 63);
    faultIs(Kit.text(LONGEST).substring(0, 63) + ":", 63);
    faultIs(Kit.text(LONGEST).substring(0, 62) + "00", 62);
    faultIs("K" + Kit.text(LONGEST).substring(1), 0);
  }

  private static void p04TheFirstOfSeveral() {
    faultIs("l0", 0);
    faultIs("L6:X", 1);
    faultIs("L05:", 2);
    faultIs("L01/1", 3);
    faultIs("L0109", 4);
    faultIs(Kit.text("0000") + "9", 10);
  }

  private static void p04ChangesNothing() {
    Kit.quiet(Kit.BUSY, NONE, "fault");
    Kit.quiet(TEXT_63, 63, "fault");
    Kit.quiet(TEXT_64, NONE, "fault");
    Kit.quiet(busyWith("L0101"), 5, "fault");
  }

  // ---------------------------------------------------------------- 5: shape

  private static void p05Maps() {
    Kit.mapBounds(Kit.BUSY, "shape", 0);
  }

  private static void p05NoTextIsLate() {
    Kit.refused(Kit.NOTHING, LATE, "shape", 0);
    Kit.refused(busyWith(""), LATE, "shape", 1);
  }

  private static void p05AFaultIsLateWhereverItIs() {
    for (String text : new String[] {"M", "L1", "L00", "L01A", "L0", "L01", "L0101", "L010110"}) {
      Kit.refused(busyWith(text), LATE, "shape", 0);
      Kit.refused(busyWith(text), LATE, "shape", 1);
    }
    Kit.refused(TEXT_63, LATE, "shape", 0);
  }

  private static void p05UnknownIsToldAheadOfLate() {
    for (int map : new int[] {-1, 2, Kit.MIN, Kit.MAX}) {
      Kit.refused(busyWith("L1"), UNKNOWN, "shape", map);
      Kit.refused(Kit.NOTHING, UNKNOWN, "shape", map);
    }
  }

  private static void p05LAloneIsAMapOfNothing() {
    Kit.Run run = new Kit.Run(busyWith("L"));
    Kit.due("shape(0)", run.call("shape", 0), 0);
    Kit.due("items", run.call("about", 0, 0), 0);
    Kit.due("top", run.call("about", 0, 1), 0);
    Kit.dueText("the other map", run.keys(1), "5 45 60");
    run.call("undo");
    Kit.dueText("undone", run.keys(0), "10 20 30 40 50 60 70 80 90");
  }

  private static void p05TheMostItems() {
    Kit.taken(TEXT_64, 21, "shape", 0);
    Kit.taken(TEXT_64, 21, "shape", 1);
  }

  private static void p05TheGreatestKey() {
    Kit.Run run = new Kit.Run();
    StringBuilder s = new StringBuilder("L");
    for (char height : LONGEST.toCharArray()) {
      s.append(height).append("49");
    }
    run.tell(s.toString());
    run.call("shape", 0);
    Kit.due("least key", run.call("about", 0, 3), 4);
    Kit.due("greatest key", run.call("about", 0, 4), 84);
    Kit.due("values", run.call("sum", 0, 0, 99), 21 * 9);
    Kit.dueText("heights", run.heights(0), LONGEST);
  }

  private static void p05TheLeastSteps() {
    Kit.Run run = new Kit.Run();
    run.tell("L010119010");
    Kit.due("3 items", run.call("shape", 0), 3);
    Kit.dueText("keys", run.keys(0), "1 2 3");
    Kit.dueText("values", run.row(0, 1), "0 9 0");
  }

  private static void p05AFullMapIsShapedAnew() {
    Kit.Run run = new Kit.Run(Kit.FULL_0);
    Kit.due("shape", run.call("shape", 0), 3);
    Kit.dueText("keys", run.keys(0), "1 4 5");
    Kit.due("undo", run.call("undo"), 13);
    Kit.due("items", run.call("about", 0, 0), 40);
  }

  private static void p05TheTextStays() {
    Kit.Run run = new Kit.Run(Kit.BUSY);
    run.call("shape", 0);
    Kit.due("letters", run.call("count", 2), 10);
    Kit.due("the other map by the same text", run.call("shape", 1), 3);
    Kit.due("acts", run.call("count", 0), 14);
  }
}
