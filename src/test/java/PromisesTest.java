/** Each promise of the document by itself: ordinary inputs, the edges it names, wrong inputs. */
public final class PromisesTest {
  private static final int UNKNOWN = -1, BAD = -2, LATE = -3, FULL = -4, NONE = -9;
  private static int wrong = 0;
  private static int promise = 0;

  public static void main(String[] args) {
    newObject();
    write();
    wipe();
    fault();
    faultOfHighOnes();
    shape();
    put();
    putAtTheEdges();
    remove();
    removeHelped();
    cut();
    cutIntoFull();
    undo();
    about();
    item();
    get();
    span();
    rank();
    near();
    looks();
    sum();
    would();
    best();
    judge();
    judgeWrong();
    share();
    seek();
    unseek();
    keys();
    rests();
    restsWrong();
    lost();
    seed();
    rounds();
    keep();
    again();
    count();
    constants();
    System.out.println(wrong == 0 ? "PromisesTest: all as due" : "PromisesTest: wrong " + wrong);
    if (wrong != 0) {
      System.exit(1);
    }
  }

  // ---------------------------------------------------------------- helpers

  private static void due(String call, long got, long want) {
    if (got != want) {
      wrong++;
      System.out.println("promise " + promise + ": " + call + " answered " + got + ", due is " + want);
    }
  }

  private static void dueText(String call, String got, String want) {
    if (!got.equals(want)) {
      wrong++;
      System.out.println("promise " + promise + ": " + call + " is " + got + ", due is " + want);
    }
  }

  /** Puts the keys in their order, each with ten times itself as its value. */
  private static ThreeGaps with(int... keys) {
    ThreeGaps x = new ThreeGaps();
    fill(x, 0, keys);
    return x;
  }

  private static void fill(ThreeGaps x, int map, int... keys) {
    for (int key : keys) {
      x.put(map, key, 10 * key);
    }
  }

  private static int[] upTo(int n, int step) {
    int[] keys = new int[n];
    for (int i = 0; i < n; i++) {
      keys[i] = i * step;
    }
    return keys;
  }

  /** 10, 20 .. 90, put in this order: their heights are 0 1 0 2 0 1 0 0 0. */
  private static ThreeGaps nine() {
    return with(10, 20, 30, 40, 50, 60, 70, 80, 90);
  }

  private static void tell(ThreeGaps x, String text) {
    x.wipe();
    for (int i = 0; i < text.length(); i++) {
      x.write(text.charAt(i));
    }
  }

  private static String row(ThreeGaps x, int map, int what) {
    StringBuilder s = new StringBuilder();
    for (int i = 0; i < x.about(map, 0); i++) {
      s.append(i == 0 ? "" : " ").append(x.item(map, i, what));
    }
    return s.toString();
  }

  private static String heights(ThreeGaps x, int map) {
    return row(x, map, 2).replace(" ", "");
  }

  /** All that can be seen without changing anything. */
  private static String state(ThreeGaps x) {
    StringBuilder s = new StringBuilder();
    for (int map = 0; map < 2; map++) {
      for (int what = 0; what < 3; what++) {
        s.append(row(x, map, what)).append('|');
      }
    }
    for (int what = 0; what < 3; what++) {
      s.append(x.count(what)).append('|');
    }
    long seed = x.seed(0);
    x.seed(seed);
    return s.append(seed).append('|').append(x.fault()).append('|').append(x.keys(0)).toString();
  }

  // ---------------------------------------------------------------- promises

  private static void newObject() {
    promise = 1;
    ThreeGaps x = new ThreeGaps();
    for (int map = 0; map < 2; map++) {
      due("items", x.about(map, 0), 0);
      due("top", x.about(map, 1), 0);
      due("heights", x.about(map, 2), 0);
      due("least", x.about(map, 3), NONE);
      due("greatest", x.about(map, 4), NONE);
      due("looks", x.about(map, 5), 0);
      due("item", x.item(map, 0, 0), UNKNOWN);
      due("again", x.again(map), LATE);
    }
    for (int what = 0; what < 3; what++) {
      due("count", x.count(what), 0);
    }
    due("undo", x.undo(), LATE);
    due("fault", x.fault(), 0);
    due("keys", x.keys(0), 100);
    due("seed", x.seed(7), 0);
    ThreeGaps y = new ThreeGaps();
    x.put(0, 1, 1);
    due("another object's items", y.about(0, 0), 0);
  }

  private static void write() {
    promise = 2;
    ThreeGaps x = new ThreeGaps();
    due("-1", x.write(-1), BAD);
    due("256", x.write(256), BAD);
    due("length", x.count(2), 0);
    due("0", x.write(0), 1);
    due("255", x.write(255), 2);
    for (int i = 3; i <= 64; i++) {
      due("letter " + i, x.write('L'), i);
    }
    due("the 65th", x.write('L'), FULL);
    due("a bad 65th", x.write(256), BAD);
    due("length", x.count(2), 64);
    due("the first letter is still there", x.fault(), 0);
  }

  private static void wipe() {
    promise = 3;
    ThreeGaps x = new ThreeGaps();
    due("wipe", x.wipe(), 0);
    tell(x, "L010");
    due("wipe", x.wipe(), 4);
    due("wipe", x.wipe(), 0);
    due("count", x.count(2), 0);
    due("fault", x.fault(), 0);
    due("write", x.write('L'), 1);
    due("fault", x.fault(), NONE);
  }

  private static void faultIs(String text, int want) {
    ThreeGaps x = new ThreeGaps();
    tell(x, text);
    due("fault of " + text, x.fault(), want);
    due("fault of " + text + " told again", x.fault(), want);
    due("length of " + text, x.count(2), text.length());
  }

  private static void fault() {
    promise = 4;
    faultIs("", 0);
    faultIs("L", NONE);
    faultIs("X", 0);
    faultIs("l", 0);
    faultIs("0L", 0);
    faultIs("LL", 1);
    faultIs("L0", 2);
    faultIs("L01", 3);
    faultIs("L010", NONE);
    faultIs("L049", NONE);
    faultIs("L/10", 1);
    faultIs("L610", 1);
    faultIs("L510", 1);
    faultIs("L110", 1);
    faultIs("L000", 2);
    faultIs("L050", 2);
    faultIs("L01/", 3);
    faultIs("L01:", 3);
    faultIs("L0101", 5);
    faultIs("L0102", 4);
    faultIs("L010110", 7);
    faultIs("L0101101", 7);
    faultIs("L0101102", 7);
    faultIs("L010110010", NONE);
    faultIs("L010010010", NONE);
    faultIs("L0100100100", 10);
    faultIs("L010010010110010", NONE);
    faultIs("L010110010110010110010", NONE);
    faultIs("L0101100101100101100101", 22);
    faultIs("L0101100101100101100102", 23);
    faultIs("L010110010210", 13);
    faultIs("L010110010210010", 16);
    faultIs("L010110010210010110", 19);
    faultIs("L010110010210010110010", NONE);
    faultIs("L010110010210010210", 16);
    faultIs("L01011001021X", 12);
  }

  private static String spread(String heights) {
    StringBuilder s = new StringBuilder("L");
    for (int i = 0; i < heights.length(); i++) {
      s.append(heights.charAt(i)).append("40");
    }
    return s.toString();
  }

  private static void faultOfHighOnes() {
    promise = 4;
    faultIs(spread("010201030102010"), NONE);
    faultIs(spread("01020103010201"), 43);
    faultIs(spread("0102010301020104"), 49);
    faultIs(spread("0102010301020105"), 46);
    faultIs(spread("0102010301020103"), 49);
    faultIs(spread("010201030102010300010"), 64);
    faultIs(spread("001020010300102000104"), 64);
    faultIs(spread("00010001000200010001"), 61);
    faultIs(spread("000100010002000100010"), NONE);
    faultIs(spread("010201020102010"), NONE);
    faultIs(spread("0102010201020102"), 46);
    faultIs(spread("0102010201020103"), 49);
  }

  private static void shape() {
    promise = 5;
    ThreeGaps x = new ThreeGaps();
    due("no text", x.shape(0), LATE);
    due("no map", x.shape(2), UNKNOWN);
    due("no map", x.shape(-1), UNKNOWN);
    fill(x, 0, 50, 60);
    fill(x, 1, 7);
    tell(x, "L019128031");
    due("shape", x.shape(0), 3);
    dueText("keys", row(x, 0, 0), "1 3 6");
    dueText("values", row(x, 0, 1), "9 8 1");
    dueText("heights", row(x, 0, 2), "0 1 0");
    dueText("the other map", row(x, 1, 0), "7");
    due("an act", x.count(0), 4);
    due("the text stays", x.count(2), 10);
    due("undo", x.undo(), 3);
    dueText("keys", row(x, 0, 0), "50 60");
    x.write('0');
    String before = state(x);
    due("faulty", x.shape(1), LATE);
    due("faulty and no map", x.shape(2), UNKNOWN);
    dueText("state", state(x), before);
    tell(x, "L");
    due("empty shape", x.shape(1), 0);
    due("items", x.about(1, 0), 0);
    due("top", x.about(1, 1), 0);
    tell(x, spread("000100010002000100010").substring(0, 64));
    due("21 items", x.shape(1), 21);
    due("greatest", x.about(1, 4), 84);
    due("top", x.about(1, 1), 3);
    due("put in the shape", x.put(1, 1, 5), 22);
    dueText("heights", heights(x, 1), "0010100010002000100010");
  }

  private static void put() {
    promise = 6;
    ThreeGaps x = new ThreeGaps();
    String[] due = {"0", "00", "000", "0100", "01000", "010100", "0101000", "01010100", "010201000"};
    for (int i = 1; i <= 9; i++) {
      due("put " + 10 * i, x.put(0, 10 * i, i), i);
      dueText("heights", heights(x, 0), due[i - 1]);
    }
    dueText("keys", row(x, 0, 0), "10 20 30 40 50 60 70 80 90");
    dueText("values", row(x, 0, 1), "1 2 3 4 5 6 7 8 9");
    due("there already", x.put(0, 80, 77), 9);
    dueText("heights", heights(x, 0), "010201000");
    due("its value", x.get(0, 80), 77);
    due("acts", x.count(0), 10);
    due("in the full gap", x.put(0, 75, 0), 10);
    dueText("keys", row(x, 0, 0), "10 20 30 40 50 60 70 75 80 90");
    dueText("heights", heights(x, 0), "0102010010");
    due("at the front", x.put(0, 0, 0), 11);
    dueText("heights", heights(x, 0), "00102010010");
    due("the other map", x.about(1, 0), 0);
    due("key 99", x.put(1, 99, 0), 1);
    ThreeGaps down = with(9, 8, 7, 6, 5, 4, 3, 2, 1);
    dueText("put downward", heights(down, 0), "000102010");
    ThreeGaps middle = with(10, 20, 30, 15);
    dueText("left of the middle one", heights(middle, 0), "0010");
  }

  private static void putAtTheEdges() {
    promise = 6;
    ThreeGaps x = with(upTo(40, 2));
    due("items", x.about(0, 0), 40);
    String before = state(x);
    due("map 2", x.put(2, 100, -1), UNKNOWN);
    due("map -1", x.put(-1, 1, 0), UNKNOWN);
    due("key 100", x.put(0, 100, -1), UNKNOWN);
    due("key -1", x.put(0, -1, 0), UNKNOWN);
    due("value -1", x.put(0, 1, -1), BAD);
    due("value 1000000", x.put(0, 2, 1000000), BAD);
    due("41st", x.put(0, 1, 0), FULL);
    dueText("state", state(x), before);
    due("the first is there already", x.put(0, 0, 5), 40);
    due("there already", x.put(0, 2, 999999), 40);
    due("value", x.get(0, 2), 999999);
    due("value 0", x.put(0, 2, 0), 40);
    due("value", x.get(0, 2), 0);
  }

  private static void remove() {
    promise = 7;
    ThreeGaps x = with(10, 20, 30, 40);
    due("height 0", x.remove(0, 40), 400);
    dueText("heights", heights(x, 0), "010");
    due("acts", x.count(0), 5);
    String before = state(x);
    due("map", x.remove(2, 20), UNKNOWN);
    due("map", x.remove(-1, 20), UNKNOWN);
    due("key", x.remove(0, 100), UNKNOWN);
    due("key", x.remove(0, -1), UNKNOWN);
    due("not there", x.remove(0, 40), LATE);
    due("not in that map", x.remove(1, 20), LATE);
    dueText("state", state(x), before);
    x = with(10, 20, 30, 40);
    due("height 1, changed with the next", x.remove(0, 20), 200);
    dueText("keys", row(x, 0, 0), "10 30 40");
    dueText("values", row(x, 0, 1), "100 300 400");
    dueText("heights", heights(x, 0), "010");
    due("height 1, changed, then joined", x.remove(0, 30), 300);
    dueText("keys", row(x, 0, 0), "10 40");
    dueText("heights", heights(x, 0), "00");
    due("10", x.remove(0, 10), 100);
    due("the only one", x.remove(0, 40), 400);
    due("items", x.about(0, 0), 0);
    due("top", x.about(0, 1), 0);
    x = nine();
    due("height 2", x.remove(0, 40), 400);
    dueText("keys", row(x, 0, 0), "10 20 30 50 60 70 80 90");
    dueText("heights", heights(x, 0), "01010100");
  }

  private static void removeHelped() {
    promise = 7;
    ThreeGaps x = nine();
    x.remove(0, 10);
    dueText("joined twice", heights(x, 0), "00101000");
    due("top", x.about(0, 1), 2);
    x = nine();
    x.remove(0, 90);
    dueText("joined above, rich below", heights(x, 0), "01010100");
    x = with(10, 20, 30, 40);
    x.remove(0, 10);
    dueText("helped from behind, keys", row(x, 0, 0), "20 30 40");
    dueText("helped from behind", heights(x, 0), "010");
    x = with(10, 20, 30, 40, 5);
    x.remove(0, 40);
    x.remove(0, 30);
    dueText("helped from ahead, keys", row(x, 0, 0), "5 10 20");
    dueText("helped from ahead", heights(x, 0), "010");
    // both sides have fences of height 1: the one behind is taken
    x = new ThreeGaps();
    tell(x, "L010010110010110010010");
    x.shape(0);
    x.remove(0, 4);
    dueText("the fence behind", heights(x, 0), "001010");
    dueText("keys", row(x, 0, 0), "1 2 3 5 6 7");
    // at level 2 the fence is the 5, and lower then, so it is the fence at level 1 too
    tell(x, "L010010110010210010110010");
    x.shape(0);
    x.remove(0, 4);
    dueText("at level 2 and 1", heights(x, 0), "0010010");
    // the fence behind is too high: the one ahead is taken
    tell(x, "L010110010110010210010110010");
    x.shape(0);
    x.remove(0, 5);
    dueText("the fence ahead", heights(x, 0), "01002010");
    dueText("keys", row(x, 0, 0), "1 2 3 4 6 7 8 9");
  }

  private static void cut() {
    promise = 8;
    ThreeGaps x = nine();
    fill(x, 1, 45, 60);
    x.put(1, 60, 1);
    x.keep(0);
    x.again(0);
    String before = state(x);
    due("map", x.cut(2, 30, 60), UNKNOWN);
    due("map", x.cut(-1, 30, 60), UNKNOWN);
    due("a", x.cut(0, 100, 0), UNKNOWN);
    due("a", x.cut(0, -1, 0), UNKNOWN);
    due("b", x.cut(0, 30, 100), UNKNOWN);
    due("b", x.cut(0, 30, -1), UNKNOWN);
    due("a > b", x.cut(0, 31, 30), BAD);
    dueText("state", state(x), before);
    due("30 .. 60", x.cut(0, 30, 60), 4);
    dueText("left", row(x, 0, 0), "10 20 70 80 90");
    dueText("spliced", row(x, 1, 0), "30 40 45 50 60");
    dueText("values", row(x, 1, 1), "300 400 450 500 600");
    due("one act", x.count(0), 1);
    due("one key", x.cut(0, 90, 90), 1);
    due("none", x.cut(0, 90, 99), 0);
    due("none is an act too", x.count(0), 3);
    x.undo();
    x.undo();
    due("undo", x.undo(), 0);
    dueText("state", row(x, 0, 0) + "|" + row(x, 1, 0), "10 20 30 40 50 60 70 80 90|45 60");
    due("value again", x.get(1, 60), 1);
    due("from map 1", x.cut(1, 0, 99), 2);
    due("items", x.about(0, 0), 10);
    due("value from map 1", x.get(0, 60), 1);
  }

  private static void cutIntoFull() {
    promise = 8;
    ThreeGaps x = with(upTo(40, 2));
    fill(x, 1, 0, 2, 4, 99);
    String before = state(x);
    due("one too many", x.cut(1, 0, 99), FULL);
    due("a > b of a full one", x.cut(1, 99, 0), BAD);
    dueText("state", state(x), before);
    due("those that are there", x.cut(1, 0, 98), 3);
    due("items", x.about(0, 0), 40);
    due("left", x.about(1, 0), 1);
    due("all of a full map", x.cut(0, 0, 78), FULL);
    due("39 of it", x.cut(0, 0, 77), 39);
    due("full now", x.about(1, 0), 40);
    // the heights tell that they were moved one after the other, the least first
    ThreeGaps y = nine();
    y.cut(0, 0, 99);
    dueText("moved in order", heights(y, 1), "010201000");
  }

  private static void undo() {
    promise = 9;
    ThreeGaps x = new ThreeGaps();
    due("none", x.undo(), LATE);
    x.put(0, 1, 1);
    x.put(0, 1, 2);
    x.remove(0, 1);
    x.put(0, 5, 5);
    x.cut(0, 0, 99);
    tell(x, "L017");
    x.shape(1);
    due("shaped", x.get(1, 1), 7);
    due("undo shape", x.undo(), 5);
    dueText("map 1", row(x, 1, 0), "5");
    due("the text stays", x.count(2), 4);
    due("undo cut", x.undo(), 4);
    dueText("map 0", row(x, 0, 0), "5");
    due("map 1", x.about(1, 0), 0);
    due("undo put", x.undo(), 3);
    due("items", x.about(0, 0), 0);
    due("undo remove", x.undo(), 2);
    due("value", x.get(0, 1), 2);
    due("undo put", x.undo(), 1);
    due("value", x.get(0, 1), 1);
    due("undo put", x.undo(), 0);
    due("undo", x.undo(), LATE);
    for (int i = 0; i < 20; i++) {
      x.put(0, i, i);
    }
    due("acts", x.count(0), 14);
    String heights = heights(x, 0);
    for (int i = 13; i >= 0; i--) {
      due("undo", x.undo(), i);
    }
    due("all undone", x.undo(), LATE);
    due("items", x.about(0, 0), 6);
    for (int i = 6; i < 20; i++) {
      x.put(0, i, i);
    }
    dueText("heights", heights(x, 0), heights);
    x.remove(0, 99);
    x.put(0, 3, -1);
    x.cut(0, 9, 8);
    x.shape(2);
    due("refused ones are no acts", x.undo(), 13);
    due("items", x.about(0, 0), 19);
  }

  private static void about() {
    promise = 10;
    ThreeGaps x = nine();
    int[] due = {9, 3, 4, 10, 90, 27};
    for (int what = 0; what < due.length; what++) {
      due("about " + what, x.about(0, what), due[what]);
      due("map", x.about(2, what), UNKNOWN);
      due("map", x.about(-1, what), UNKNOWN);
    }
    due("what", x.about(0, 6), BAD);
    due("what", x.about(1, -1), BAD);
    due("map and what", x.about(2, 6), UNKNOWN);
    due("map 1", x.about(1, 4), NONE);
    int all = 0;
    for (int key = 10; key <= 90; key += 10) {
      all += x.looks(0, key);
    }
    due("looks one by one", all, 27);
  }

  private static void item() {
    promise = 11;
    ThreeGaps x = nine();
    due("key", x.item(0, 3, 0), 40);
    due("value", x.item(0, 3, 1), 400);
    due("height", x.item(0, 3, 2), 2);
    due("first", x.item(0, 0, 0), 10);
    due("last", x.item(0, 8, 0), 90);
    due("behind the last", x.item(0, 9, 0), UNKNOWN);
    due("-1", x.item(0, -1, 0), UNKNOWN);
    due("map", x.item(2, 0, 0), UNKNOWN);
    due("map", x.item(-1, 0, 0), UNKNOWN);
    due("empty map", x.item(1, 0, 0), UNKNOWN);
    due("what", x.item(0, 0, 3), BAD);
    due("what", x.item(0, 0, -1), BAD);
    due("i and what", x.item(0, 9, 3), UNKNOWN);
  }

  private static void get() {
    promise = 12;
    ThreeGaps x = nine();
    x.put(0, 0, 0);
    x.put(0, 99, 999999);
    due("40", x.get(0, 40), 400);
    due("0", x.get(0, 0), 0);
    due("99", x.get(0, 99), 999999);
    due("41", x.get(0, 41), NONE);
    due("the other map", x.get(1, 40), NONE);
    due("map", x.get(2, 40), UNKNOWN);
    due("map", x.get(-1, 40), UNKNOWN);
    due("key", x.get(0, 100), UNKNOWN);
    due("key", x.get(0, -1), UNKNOWN);
  }

  private static void span() {
    promise = 13;
    ThreeGaps x = nine();
    due("40 at 2", x.span(0, 40, 2), 6);
    due("40 at 1", x.span(0, 40, 1), 2);
    due("40 at 0", x.span(0, 40, 0), 1);
    due("20 at 1", x.span(0, 20, 1), 2);
    due("60 at 1", x.span(0, 60, 1), 4);
    due("10 at 0", x.span(0, 10, 0), 1);
    due("90 at 0", x.span(0, 90, 0), 1);
    due("level", x.span(0, 90, 1), BAD);
    due("level", x.span(0, 40, 3), BAD);
    due("level", x.span(0, 40, -1), BAD);
    due("not there", x.span(0, 41, 0), LATE);
    due("not there, level", x.span(0, 41, 9), LATE);
    due("not there", x.span(1, 40, 0), LATE);
    due("map", x.span(2, 40, 0), UNKNOWN);
    due("map", x.span(-1, 40, 0), UNKNOWN);
    due("key", x.span(0, 100, 0), UNKNOWN);
    due("key", x.span(0, -1, 0), UNKNOWN);
  }

  private static void rank() {
    promise = 14;
    ThreeGaps x = nine();
    due("0", x.rank(0, 0), 0);
    due("10", x.rank(0, 10), 0);
    due("11", x.rank(0, 11), 1);
    due("90", x.rank(0, 90), 8);
    due("99", x.rank(0, 99), 9);
    due("empty", x.rank(1, 99), 0);
    due("map", x.rank(2, 0), UNKNOWN);
    due("map", x.rank(-1, 0), UNKNOWN);
    due("key", x.rank(0, 100), UNKNOWN);
    due("key", x.rank(0, -1), UNKNOWN);
  }

  private static void near() {
    promise = 15;
    ThreeGaps x = nine();
    due("55 down", x.near(0, 55, 0), 50);
    due("55 up", x.near(0, 55, 1), 60);
    due("50 down", x.near(0, 50, 0), 50);
    due("50 up", x.near(0, 50, 1), 50);
    due("10 down", x.near(0, 10, 0), 10);
    due("9 down", x.near(0, 9, 0), NONE);
    due("9 up", x.near(0, 9, 1), 10);
    due("91 down", x.near(0, 91, 0), 90);
    due("91 up", x.near(0, 91, 1), NONE);
    due("empty down", x.near(1, 50, 0), NONE);
    due("empty up", x.near(1, 50, 1), NONE);
    due("up 2", x.near(0, 50, 2), BAD);
    due("up -1", x.near(0, 50, -1), BAD);
    due("map", x.near(2, 50, 2), UNKNOWN);
    due("map", x.near(-1, 50, 0), UNKNOWN);
    due("key", x.near(0, 100, 2), UNKNOWN);
    due("key", x.near(0, -1, 0), UNKNOWN);
  }

  private static void looks() {
    promise = 16;
    ThreeGaps x = nine();
    int[] due = {3, 2, 4, 1, 3, 2, 3, 4, 5};
    for (int i = 0; i < 9; i++) {
      due("looks for " + 10 * (i + 1), x.looks(0, 10 * (i + 1)), due[i]);
    }
    due("5", x.looks(0, 5), 3);
    due("15", x.looks(0, 15), 4);
    due("25", x.looks(0, 25), 4);
    due("45", x.looks(0, 45), 3);
    due("55", x.looks(0, 55), 4);
    due("99", x.looks(0, 99), 5);
    due("empty", x.looks(1, 5), 0);
    due("map", x.looks(2, 5), UNKNOWN);
    due("map", x.looks(-1, 5), UNKNOWN);
    due("key", x.looks(0, 100), UNKNOWN);
    due("key", x.looks(0, -1), UNKNOWN);
  }

  private static void sum() {
    promise = 17;
    ThreeGaps x = nine();
    due("all", x.sum(0, 0, 99), 4500);
    due("20 .. 60", x.sum(0, 20, 60), 2000);
    due("21 .. 59", x.sum(0, 21, 59), 1200);
    due("one", x.sum(0, 30, 30), 300);
    due("none", x.sum(0, 31, 39), 0);
    due("empty", x.sum(1, 0, 99), 0);
    due("a > b", x.sum(0, 31, 30), BAD);
    due("map", x.sum(2, 31, 30), UNKNOWN);
    due("map", x.sum(-1, 30, 31), UNKNOWN);
    due("a", x.sum(0, 100, 30), UNKNOWN);
    due("a", x.sum(0, -1, 30), UNKNOWN);
    due("b", x.sum(0, 30, 100), UNKNOWN);
    due("b", x.sum(0, 30, -1), UNKNOWN);
    ThreeGaps full = new ThreeGaps();
    for (int i = 0; i < 40; i++) {
      full.put(1, i, 999999);
    }
    due("the most", full.sum(1, 0, 39), 39999960);
  }

  private static void would() {
    promise = 18;
    ThreeGaps x = nine();
    String before = state(x);
    // 10 gone: 20 and 40 are lower; 75 in: the middle one of 70, 80, 90 is higher
    due("10, others", x.would(0, 10, 0), 2);
    due("10, top", x.would(0, 10, 1), 2);
    due("10, looks", x.would(0, 10, 2), 23);
    due("75, others", x.would(0, 75, 0), 1);
    due("75, top", x.would(0, 75, 1), 3);
    due("75, looks", x.would(0, 75, 2), 31);
    due("40, others", x.would(0, 40, 0), 3);
    due("0, others", x.would(0, 0, 0), 0);
    due("what", x.would(0, 10, 3), BAD);
    due("what", x.would(0, 10, -1), BAD);
    due("map", x.would(2, 10, 3), UNKNOWN);
    due("map", x.would(-1, 10, 0), UNKNOWN);
    due("key", x.would(0, 100, 3), UNKNOWN);
    due("key", x.would(0, -1, 0), UNKNOWN);
    due("into nothing, top", x.would(1, 5, 1), 1);
    due("into nothing, looks", x.would(1, 5, 2), 1);
    dueText("state", state(x), before);
    ThreeGaps full = with(upTo(40, 2));
    due("full", full.would(0, 1, 0), FULL);
    due("full, what", full.would(0, 1, 3), BAD);
    int looks = full.would(0, 2, 2);
    int top = full.would(0, 2, 1);
    full.remove(0, 2);
    due("full, one that is there: looks", looks, full.about(0, 5));
    due("full, one that is there: top", top, full.about(0, 1));
    ThreeGaps one = with(5);
    due("the only one, top", one.would(0, 5, 1), 0);
    due("the only one, looks", one.would(0, 5, 2), 0);
    due("the only one, others", one.would(0, 5, 0), 0);
  }

  private static void best() {
    promise = 19;
    ThreeGaps x = nine();
    String before = state(x);
    due("which", x.best(0, 0), 0);
    due("how many", x.best(0, 1), 31);
    due("empty, which", x.best(1, 0), 0);
    due("empty, how many", x.best(1, 1), 1);
    due("what", x.best(0, 2), BAD);
    due("what", x.best(0, -1), BAD);
    due("map", x.best(2, 2), UNKNOWN);
    due("map", x.best(-1, 0), UNKNOWN);
    dueText("state", state(x), before);
    x = new ThreeGaps();
    for (int key = 0; key < 100; key += 3) {
      x.put(0, key * 37 % 100, 0);
    }
    int which = -1;
    int fewest = 100000;
    for (int key = 0; key < 100; key++) {
      if (x.get(0, key) == NONE && x.would(0, key, 2) < fewest) {
        which = key;
        fewest = x.would(0, key, 2);
      }
    }
    due("which of many", x.best(0, 0), which);
    due("how many of many", x.best(0, 1), fewest);
    ThreeGaps full = with(upTo(40, 1));
    due("full", full.best(0, 0), NONE);
    due("full", full.best(0, 1), NONE);
    due("full, what", full.best(0, 2), BAD);
    due("0 is there", with(0).best(0, 0), 1);
    due("0 .. 2 are there", with(0, 1, 2).best(0, 0), 3);
  }

  private static void judge() {
    promise = 20;
    ThreeGaps x = nine();
    String before = state(x);
    due("put", x.judge(1, 1055), NONE);
    due("put in map 1, it is there", x.judge(2, 1105_3105L), NONE);
    due("put in map 0, not in map 1", x.judge(2, 1005_3105L), 1);
    due("removed", x.judge(2, 2010_3010L), 1);
    due("removed twice", x.judge(2, 2010_2010L), 1);
    due("not there", x.judge(1, 2011), 0);
    due("there", x.judge(1, 3090), NONE);
    due("top 3", x.judge(1, 4003), NONE);
    due("top 2", x.judge(1, 4002), 0);
    due("top falls", x.judge(2, 2010_4002L), NONE);
    due("27 looks", x.judge(1, 5027), NONE);
    due("26 looks", x.judge(1, 5026), 0);
    due("99 looks", x.judge(1, 5099), NONE);
    due("four", x.judge(4, 1099_2099_3090_5027L), NONE);
    due("the fourth", x.judge(4, 3010_3020_3090_5026L), 3);
    due("the first one of two", x.judge(3, 3090_3091_3092L), 1);
    due("leading noughts", x.judge(2, 3090), 0);
    dueText("state", state(x), before);
  }

  private static void judgeWrong() {
    promise = 20;
    ThreeGaps x = with(upTo(40, 2));
    due("n 0", x.judge(0, 0), BAD);
    due("n 5", x.judge(5, 0), BAD);
    due("n -1", x.judge(-1, 0), BAD);
    due("row", x.judge(1, -1), BAD);
    due("row", x.judge(4, Long.MIN_VALUE), BAD);
    due("row", x.judge(1, 10000), BAD);
    due("row", x.judge(2, 100000000L), BAD);
    due("row", x.judge(3, 1000000000000L), BAD);
    due("row", x.judge(4, 10000000000000000L), BAD);
    due("row", x.judge(4, Long.MAX_VALUE), BAD);
    due("row 0", x.judge(1, 0), 0);
    due("9999 four times", x.judge(4, 9999999999999999L), 0);
    due("a full map", x.judge(1, 1001), 0);
    due("a full map, it is there", x.judge(1, 1002), NONE);
    due("a full map, then one less", x.judge(2, 2002_1001L), NONE);
    due("no such doing", x.judge(1, 6000), 0);
    due("no such doing", x.judge(1, 2), 0);
    due("no such map", x.judge(1, 1202), 0);
    due("no such map", x.judge(1, 4900), 0);
  }

  private static void share() {
    promise = 21;
    ThreeGaps x = nine();
    String before = state(x);
    int[][] due = {{25, 6}, {7, 2}, {7, 2}, {23, 6}};
    dueShares(x, 0, due);
    due("i 4", x.share(0, 4, true), UNKNOWN);
    due("i -1", x.share(0, -1, true), UNKNOWN);
    due("map", x.share(2, 0, true), UNKNOWN);
    due("map", x.share(-1, 0, true), UNKNOWN);
    due("no items", x.share(1, 0, true), UNKNOWN);
    dueText("state", state(x), before);
    // 1 + 2 looks: whoever comes first takes 2 away, and then the one that is left
    x = with(1, 2);
    due("one of two", x.share(0, 0, true), 3);
    due("one of two", x.share(0, 0, false), 2);
    due("one of two", x.share(0, 1, true), 3);
    due("third of two", x.share(0, 2, true), UNKNOWN);
    x = with(7);
    due("the only one", x.share(0, 0, true), 1);
    due("the only one", x.share(0, 0, false), 1);
    due("second of one", x.share(0, 1, false), UNKNOWN);
  }

  private static void dueShares(ThreeGaps x, int map, int[][] due) {
    for (int i = 0; i < due.length; i++) {
      due("share of " + i + ", above", x.share(map, i, true), due[i][0]);
      due("share of " + i + ", below", x.share(map, i, false), due[i][1]);
    }
  }

  private static void seek() {
    promise = 22;
    ThreeGaps x = nine();
    due("map", x.seek(2, 21, 2), UNKNOWN);
    due("map", x.seek(-1, 0, 0), UNKNOWN);
    due("l", x.seek(0, 21, 0), BAD);
    due("l", x.seek(0, -1, 0), BAD);
    due("found", x.seek(0, 0, 2), BAD);
    due("found", x.seek(0, 0, -1), BAD);
    due("none yet", x.count(1), 0);
    for (int i = 1; i <= 6; i++) {
      due("seek", x.seek(i % 2, i == 6 ? 20 : 0, i % 2), i);
    }
    due("the seventh", x.seek(0, 0, 0), FULL);
    due("a bad seventh", x.seek(0, 21, 0), BAD);
    due("an unknown seventh", x.seek(2, 0, 0), UNKNOWN);
    due("six", x.count(1), 6);
  }

  private static void unseek() {
    promise = 23;
    ThreeGaps x = nine();
    due("none", x.unseek(), 0);
    x.seek(0, 1, 1);
    x.seek(0, 2, 1);
    due("both can not be", x.keys(0), 0);
    due("two", x.unseek(), 2);
    due("none", x.unseek(), 0);
    due("all keys", x.keys(0), 100);
    due("seek", x.seek(0, 1, 1), 1);
  }

  private static void keys() {
    promise = 24;
    ThreeGaps x = nine();
    fill(x, 1, 20, 30);
    due("all", x.keys(0), 100);
    due("the first", x.keys(1), 0);
    x.seek(0, 4, 1);
    due("found by 4", x.keys(0), 2);
    due("found by 4, first", x.keys(1), 30);
    x.seek(1, 2, 1);
    due("and in map 1", x.keys(0), 1);
    due("and in map 1, first", x.keys(1), 30);
    x.remove(1, 30);
    due("as maps are now", x.keys(0), 0);
    due("as maps are now, first", x.keys(1), NONE);
    x.unseek();
    // not found by 3 looks: 0 .. 9, 41 .. 49 and 61 .. 69
    x.seek(0, 3, 0);
    due("not found by 3", x.keys(0), 28);
    due("not found by 3, first", x.keys(1), 0);
    due("what", x.keys(2), BAD);
    due("what", x.keys(-1), BAD);
  }

  private static void rests() {
    promise = 25;
    ThreeGaps x = nine();
    String before = state(x);
    due("both put", x.rests(0, 1, 2, 0), 1);
    due("both put", x.rests(0, 1, 2, 1), 11);
    due("into nothing", x.rests(1, 0, 99, 0), 1);
    due("into nothing", x.rests(1, 0, 99, 1), 11);
    dueText("state", state(x), before);
    // a gain of 4 at least needs 6 looks at most
    ThreeGaps y = with(upTo(32, 3));
    due("far out, how many", y.rests(0, 98, 99, 0), 1);
    due("far out, first", y.rests(0, 98, 99, 1), 0);
    due("one of them, how many", y.rests(0, 1, 99, 0), 1);
    due("one of them, first", y.rests(0, 1, 99, 1), 10);
    due("the other of them, first", y.rests(0, 99, 1, 1), 1);
    // 6 looks gain as much as no put does: such a choice may be either
    dueRests("010020010010", 29, 47, 2, 10);
    // which of both is put first matters
    dueRests("0010001000200010", 13, 1, 1, 11);
    dueRests("0010001000200010", 1, 13, 2, 10);
    dueRests("000100102010010", 27, 41, 2, 1);
    dueRests("010010100020100", 31, 17, 3, 1);
    dueRests("010002001020010001000", 21, 41, 4, 0);
  }

  private static void dueRests(String heights, int one, int other, int many, int first) {
    ThreeGaps x = new ThreeGaps();
    tell(x, spread(heights).replace('4', '2'));
    x.shape(0);
    due("rests in " + heights + ", how many", x.rests(0, one, other, 0), many);
    due("rests in " + heights + ", first", x.rests(0, one, other, 1), first);
  }

  private static void restsWrong() {
    promise = 25;
    ThreeGaps x = with(upTo(39, 2));
    due("map", x.rests(2, 1, 1, 2), UNKNOWN);
    due("map", x.rests(-1, 1, 3, 0), UNKNOWN);
    due("one", x.rests(0, 100, 100, 2), UNKNOWN);
    due("one", x.rests(0, -1, 3, 0), UNKNOWN);
    due("other", x.rests(0, 3, 100, 2), UNKNOWN);
    due("other", x.rests(0, 3, -1, 0), UNKNOWN);
    due("both are one", x.rests(0, 2, 2, 0), BAD);
    due("what", x.rests(0, 2, 4, 2), BAD);
    due("what", x.rests(0, 1, 3, -1), BAD);
    due("one is there", x.rests(0, 0, 3, 0), LATE);
    due("other is there", x.rests(0, 3, 0, 0), LATE);
    due("one is there", x.rests(0, 2, 3, 0), LATE);
    due("other is there", x.rests(0, 3, 2, 0), LATE);
    due("39 items", x.rests(0, 1, 3, 0), FULL);
    x.put(0, 99, 0);
    due("40 items", x.rests(0, 1, 3, 0), FULL);
    x.remove(0, 0);
    x.remove(0, 2);
    due("38 items", x.rests(0, 1, 3, 0) >= 0 ? 1 : 0, 1);
  }

  private static void lost() {
    promise = 26;
    ThreeGaps x = with(10, 20, 30, 40);
    String before = state(x);
    // one less leaves 0 1 0, two less leave 0 0: 6, 4 and 1 of 16 ways
    due("top 1, above", x.lost(0, 1, 5, true), 11);
    due("top 1, below", x.lost(0, 1, 5, false), 16);
    due("top 0, above", x.lost(0, 0, 5, true), 1);
    due("top 0, below", x.lost(0, 0, 5, false), 16);
    due("top 2, above", x.lost(0, 2, 5, true), 1);
    due("top 2, below", x.lost(0, 2, 5, false), 1);
    due("top 0 by 3 tenths, above", x.lost(0, 0, 3, true), 81);
    due("top 0 by 3 tenths, below", x.lost(0, 0, 3, false), 10000);
    due("none by nought", x.lost(0, 1, 0, true), 0);
    due("none by nought, below", x.lost(0, 1, 0, false), 1);
    due("all by ten", x.lost(0, 0, 10, true), 1);
    due("h 9", x.lost(0, 9, 10, true), 1);
    due("empty", x.lost(1, 0, 3, true), 1);
    due("empty", x.lost(1, 0, 3, false), 1);
    due("h", x.lost(0, 10, 0, true), BAD);
    due("h", x.lost(0, -1, 0, true), BAD);
    due("x", x.lost(0, 0, 11, true), BAD);
    due("x", x.lost(0, 0, -1, true), BAD);
    due("map", x.lost(2, 10, 11, true), UNKNOWN);
    due("map", x.lost(-1, 0, 0, true), UNKNOWN);
    dueText("state", state(x), before);
    ThreeGaps two = with(1, 2);
    due("two of two", two.lost(0, 0, 2, true), 1);
    due("two of two", two.lost(0, 0, 2, false), 25);
    ThreeGaps five = with(1, 2, 3, 4, 5);
    due("the fifth stays", five.lost(0, 0, 10, true), 0);
  }

  private static void seed() {
    promise = 27;
    ThreeGaps x = new ThreeGaps();
    due("at first", x.seed(Long.MIN_VALUE), 0);
    due("it was", x.seed(-1), Long.MIN_VALUE);
    due("it was", x.seed(Long.MAX_VALUE), -1);
    due("it was", x.seed(0), Long.MAX_VALUE);
    x.rounds(0, 1);
    due("after a round", x.seed(5), 1442695040888963407L);
    x.rounds(0, 1);
    due("after a round", x.seed(0), 5 * 6364136223846793005L + 1442695040888963407L);
  }

  private static void rounds() {
    promise = 28;
    ThreeGaps x = nine();
    x.put(1, 5, 5);
    String maps = row(x, 0, 0) + heights(x, 0) + row(x, 1, 0) + x.count(0);
    due("m", x.rounds(0, 0), BAD);
    due("m", x.rounds(0, 31), BAD);
    due("map", x.rounds(2, 0), UNKNOWN);
    due("map", x.rounds(-1, 1), UNKNOWN);
    due("refused: the seed stays", x.seed(0), 0);
    long v = 0;
    ThreeGaps own = nine();
    int all = 0;
    for (int i = 0; i < 30; i++) {
      v = v * 6364136223846793005L + 1442695040888963407L;
      int drawn = (int) ((v >>> 33) % 200);
      if (drawn < 100) {
        own.put(0, drawn, 0);
      } else {
        own.remove(0, drawn - 100);
      }
      all += own.about(0, 5);
    }
    due("thirty rounds", x.rounds(0, 30), all);
    due("the seed", x.seed(v), v);
    dueText("maps", row(x, 0, 0) + heights(x, 0) + row(x, 1, 0) + x.count(0), maps);
    x.seed(0);
    int one = x.rounds(0, 1);
    int drawn = (int) ((1442695040888963407L >>> 33) % 200);
    due("one round", one, drawn < 100 || x.get(0, drawn - 100) >= 0
        ? x.would(0, drawn % 100, 2) : x.about(0, 5));
    ThreeGaps full = with(upTo(40, 1));
    full.seed(0);
    int looks = full.about(0, 5);
    long w = 0;
    int puts = 0;
    for (int i = 0; i < 200 && puts == 0; i++) {
      full.seed(w);
      long next = w * 6364136223846793005L + 1442695040888963407L;
      int d = (int) ((next >>> 33) % 200);
      if (d >= 40 && d < 100) {
        puts++;
        due("full: not put", full.rounds(0, 1), looks);
      }
      w = next;
    }
    due("such a draw was found", puts, 1);
  }

  private static void keep() {
    promise = 29;
    ThreeGaps x = nine();
    fill(x, 1, 1, 2);
    due("slot", x.keep(2), UNKNOWN);
    due("slot", x.keep(-1), UNKNOWN);
    due("keep", x.keep(0), 11);
    due("acts stay", x.count(0), 11);
    x.remove(0, 10);
    due("keep", x.keep(1), 10);
    due("slot 0 is as it was", x.again(0), 11);
    due("kept anew", x.keep(1), 11);
    due("slot 1", x.again(1), 11);
  }

  private static void again() {
    promise = 30;
    ThreeGaps x = nine();
    fill(x, 1, 1, 2);
    due("none kept", x.again(0), LATE);
    due("slot", x.again(2), UNKNOWN);
    due("slot", x.again(-1), UNKNOWN);
    due("refused: acts stay", x.count(0), 11);
    x.keep(1);
    due("the other slot", x.again(0), LATE);
    tell(x, "L0");
    x.seek(0, 1, 1);
    x.seed(3);
    String maps = row(x, 0, 0) + row(x, 0, 1) + row(x, 0, 2) + row(x, 1, 0);
    x.cut(0, 0, 50);
    x.put(0, 60, 1);
    due("again", x.again(1), 11);
    dueText("maps", row(x, 0, 0) + row(x, 0, 1) + row(x, 0, 2) + row(x, 1, 0), maps);
    due("no acts", x.count(0), 0);
    due("no acts", x.undo(), LATE);
    due("sought stays", x.count(1), 1);
    due("the text stays", x.count(2), 2);
    due("the seed stays", x.seed(0), 3);
    x.remove(0, 10);
    due("gone on from", x.undo(), 0);
    x.remove(0, 10);
    due("again, again", x.again(1), 11);
    dueText("maps", row(x, 0, 0) + row(x, 0, 1) + row(x, 0, 2) + row(x, 1, 0), maps);
  }

  private static void count() {
    promise = 31;
    ThreeGaps x = nine();
    x.seek(0, 1, 1);
    x.seek(0, 1, 1);
    tell(x, "LLL");
    due("acts", x.count(0), 9);
    due("sought", x.count(1), 2);
    due("letters", x.count(2), 3);
    due("what", x.count(3), BAD);
    due("what", x.count(-1), BAD);
  }

  private static void constants() {
    promise = 0;
    due("UNKNOWN", ThreeGaps.UNKNOWN, UNKNOWN);
    due("BAD", ThreeGaps.BAD, BAD);
    due("LATE", ThreeGaps.LATE, LATE);
    due("FULL", ThreeGaps.FULL, FULL);
    due("NONE", ThreeGaps.NONE, NONE);
  }
}
