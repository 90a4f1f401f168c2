/** Two ordered maps, each a deterministic skip list whose gaps hold one, two or three items. */
public final class ThreeGaps {
  public static final int UNKNOWN = -1, BAD = -2, LATE = -3, FULL = -4, NONE = -9;

  private static final int MAPS = 2;
  private static final int KEYS = 100;
  private static final int MOST_VALUE = 999999;
  private static final int SLOTS = 2;
  private static final int MOST_ROUNDS = 30;
  private static final int MOST_CHANCED = 4;
  private static final int MOST_DOINGS = 4;
  private static final int DOING = 10000;
  private static final int[] FACTORIALS = {1, 1, 2, 6, 24};

  private final Both now = new Both();
  private final Both trial = new Both();
  private final Acts acts = new Acts();
  private final Text text = new Text();
  private final Sought sought = new Sought();
  private final Both[] slots = new Both[SLOTS];
  private final boolean[] kept = new boolean[SLOTS];
  private long theSeed = 0;

  public ThreeGaps() {
    for (int slot = 0; slot < SLOTS; slot++) {
      slots[slot] = new Both();
    }
  }

  // ---- shapes

  public int write(int letter) {
    if (letter < 0 || letter > 255) {
      return BAD;
    }
    return text.append(letter) ? text.length : FULL;
  }

  public int wipe() {
    int was = text.length;
    text.length = 0;
    return was;
  }

  public int fault() {
    return text.firstFault();
  }

  public int shape(int map) {
    if (!isMap(map)) {
      return UNKNOWN;
    }
    if (text.firstFault() != NONE) {
      return LATE;
    }
    acts.remember(now);
    Items items = now.of(map);
    text.tellTo(items);
    return items.size;
  }

  // ---- acts

  public int put(int map, int key, int value) {
    if (!isMap(map) || !isKey(key)) {
      return UNKNOWN;
    }
    if (value < 0 || value > MOST_VALUE) {
      return BAD;
    }
    Items items = now.of(map);
    if (!items.canTake(key)) {
      return FULL;
    }
    acts.remember(now);
    items.place(key, value);
    return items.size;
  }

  public int remove(int map, int key) {
    if (!isMap(map) || !isKey(key)) {
      return UNKNOWN;
    }
    Items items = now.of(map);
    int at = items.indexOf(key);
    if (at < 0) {
      return LATE;
    }
    int value = items.values[at];
    acts.remember(now);
    items.takeOut(key);
    return value;
  }

  public int cut(int map, int a, int b) {
    if (!isMap(map) || !isKey(a) || !isKey(b)) {
      return UNKNOWN;
    }
    if (a > b) {
      return BAD;
    }
    Items from = now.of(map);
    Items to = now.of(1 - map);
    if (to.size + from.newTo(to, a, b) > Items.MOST) {
      return FULL;
    }
    acts.remember(now);
    return from.moveTo(to, a, b);
  }

  public int undo() {
    return acts.bringBack(now) ? acts.held : LATE;
  }

  // ---- looks

  public int about(int map, int what) {
    if (!isMap(map)) {
      return UNKNOWN;
    }
    Items items = now.of(map);
    switch (what) {
      case 0:
        return items.size;
      case 1:
        return items.top();
      case 2:
        return items.allHeights();
      case 3:
        return items.keyAt(0);
      case 4:
        return items.keyAt(items.size - 1);
      case 5:
        return items.allLooks();
      default:
        return BAD;
    }
  }

  public int item(int map, int i, int what) {
    if (!isMap(map)) {
      return UNKNOWN;
    }
    Items items = now.of(map);
    if (i < 0 || i >= items.size) {
      return UNKNOWN;
    }
    switch (what) {
      case 0:
        return items.keys[i];
      case 1:
        return items.values[i];
      case 2:
        return items.heights[i];
      default:
        return BAD;
    }
  }

  public int get(int map, int key) {
    if (!isMap(map) || !isKey(key)) {
      return UNKNOWN;
    }
    Items items = now.of(map);
    int at = items.indexOf(key);
    return at < 0 ? NONE : items.values[at];
  }

  public int span(int map, int key, int level) {
    if (!isMap(map) || !isKey(key)) {
      return UNKNOWN;
    }
    Items items = now.of(map);
    int at = items.indexOf(key);
    if (at < 0) {
      return LATE;
    }
    if (level < 0 || level > items.heights[at]) {
      return BAD;
    }
    return items.behind(at + 1, level) - at;
  }

  public int rank(int map, int key) {
    if (!isMap(map) || !isKey(key)) {
      return UNKNOWN;
    }
    return now.of(map).lesser(key);
  }

  public int near(int map, int key, int up) {
    if (!isMap(map) || !isKey(key)) {
      return UNKNOWN;
    }
    if (up != 0 && up != 1) {
      return BAD;
    }
    Items items = now.of(map);
    int at = items.lesser(key);
    return up == 1 || items.indexOf(key) >= 0 ? items.keyAt(at) : items.keyAt(at - 1);
  }

  public int looks(int map, int key) {
    if (!isMap(map) || !isKey(key)) {
      return UNKNOWN;
    }
    return now.of(map).looksFor(key);
  }

  public int sum(int map, int a, int b) {
    if (!isMap(map) || !isKey(a) || !isKey(b)) {
      return UNKNOWN;
    }
    return a > b ? BAD : now.of(map).valuesWithin(a, b);
  }

  // ---- what would be

  public int would(int map, int key, int what) {
    if (!isMap(map) || !isKey(key)) {
      return UNKNOWN;
    }
    if (what < 0 || what > 2) {
      return BAD;
    }
    Items items = now.of(map);
    if (!items.canTake(key)) {
      return FULL;
    }
    Items changed = tryOn(map);
    if (!changed.takeOut(key)) {
      changed.place(key, 0);
    }
    switch (what) {
      case 0:
        return items.otherHeights(changed, key);
      case 1:
        return changed.top();
      default:
        return changed.allLooks();
    }
  }

  public int best(int map, int what) {
    if (!isMap(map)) {
      return UNKNOWN;
    }
    if (what != 0 && what != 1) {
      return BAD;
    }
    int bestKey = NONE;
    int fewest = NONE;
    for (int key = 0; key < KEYS; key++) {
      if (!isWorthTrying(map, key)) {
        continue;
      }
      int all = looksWith(map, key);
      if (bestKey == NONE || all < fewest) {
        bestKey = key;
        fewest = all;
      }
    }
    return what == 0 ? bestKey : fewest;
  }

  public int judge(int n, long row) {
    if (n < 1 || n > MOST_DOINGS || row < 0) {
      return BAD;
    }
    long unit = 1;
    for (int i = 1; i < n; i++) {
      unit *= DOING;
    }
    if (row / unit >= DOING) {
      return BAD;
    }
    trial.copyFrom(now);
    for (int i = 0; i < n && unit > 0; i++) {
      if (!canBe((int) (row / unit % DOING))) {
        return i;
      }
      unit /= DOING;
    }
    return NONE;
  }

  public int share(int map, int i, boolean upper) {
    if (!isMap(map)) {
      return UNKNOWN;
    }
    int players = chanced(map);
    if (i < 0 || i >= players) {
      return UNKNOWN;
    }
    int own = 1 << i;
    int above = 0;
    for (int gone = 0; gone < 1 << players; gone++) {
      if ((gone & own) == 0) {
        int fewer = without(map, gone).allLooks() - without(map, gone | own).allLooks();
        above += fewer * ordersAround(Integer.bitCount(gone), players);
      }
    }
    return fraction(above, factorial(players), upper);
  }

  // ---- sought

  public int seek(int map, int l, int found) {
    if (!isMap(map)) {
      return UNKNOWN;
    }
    if (l < 0 || l > Sought.MOST_LOOKS || found < 0 || found > 1) {
      return BAD;
    }
    return sought.add(map, l, found) ? sought.size : FULL;
  }

  public int unseek() {
    int was = sought.size;
    sought.size = 0;
    return was;
  }

  public int keys(int what) {
    if (what != 0 && what != 1) {
      return BAD;
    }
    int fitting = 0;
    int first = NONE;
    for (int key = 0; key < KEYS; key++) {
      if (sought.isSo(now, key)) {
        fitting++;
        first = first == NONE ? key : first;
      }
    }
    return what == 0 ? fitting : first;
  }

  // ---- rests, chances

  public int rests(int map, int one, int other, int what) {
    if (!isMap(map) || !isKey(one) || !isKey(other)) {
      return UNKNOWN;
    }
    if (one == other || what < 0 || what > 1) {
      return BAD;
    }
    Items items = now.of(map);
    if (items.indexOf(one) >= 0 || items.indexOf(other) >= 0) {
      return LATE;
    }
    if (items.size > Items.MOST - 2) {
      return FULL;
    }
    int resting = 0;
    int first = NONE;
    for (int pair = 0; pair < 4; pair++) {
      if (isAtRest(map, one, other, pair)) {
        resting++;
        first = first == NONE ? pair / 2 * 10 + pair % 2 : first;
      }
    }
    return what == 0 ? resting : first;
  }

  public int lost(int map, int h, int x, boolean upper) {
    if (!isMap(map)) {
      return UNKNOWN;
    }
    if (h < 0 || h > 9 || x < 0 || x > 10) {
      return BAD;
    }
    int players = chanced(map);
    int above = 0;
    int below = 1;
    for (int i = 0; i < players; i++) {
      below *= 10;
    }
    for (int gone = 0; gone < 1 << players; gone++) {
      if (without(map, gone).top() <= h) {
        above += weight(gone, players, x);
      }
    }
    return fraction(above, below, upper);
  }

  public long seed(long v) {
    long was = theSeed;
    theSeed = v;
    return was;
  }

  public int rounds(int map, int m) {
    if (!isMap(map)) {
      return UNKNOWN;
    }
    if (m < 1 || m > MOST_ROUNDS) {
      return BAD;
    }
    Items items = tryOn(map);
    int all = 0;
    for (int round = 0; round < m; round++) {
      theSeed = theSeed * 6364136223846793005L + 1442695040888963407L;
      int drawn = (int) ((theSeed >>> 33) % (2 * KEYS));
      if (drawn < KEYS) {
        items.place(drawn, 0);
      } else {
        items.takeOut(drawn - KEYS);
      }
      all += items.allLooks();
    }
    return all;
  }

  // ---- slots

  public int keep(int slot) {
    if (!isSlot(slot)) {
      return UNKNOWN;
    }
    slots[slot].copyFrom(now);
    kept[slot] = true;
    return now.items();
  }

  public int again(int slot) {
    if (!isSlot(slot)) {
      return UNKNOWN;
    }
    if (!kept[slot]) {
      return LATE;
    }
    now.copyFrom(slots[slot]);
    acts.held = 0;
    return now.items();
  }

  public int count(int what) {
    switch (what) {
      case 0:
        return acts.held;
      case 1:
        return sought.size;
      case 2:
        return text.length;
      default:
        return BAD;
    }
  }

  // ---- helpers

  private static boolean isMap(int map) {
    return map >= 0 && map < MAPS;
  }

  private static boolean isKey(int key) {
    return key >= 0 && key < KEYS;
  }

  private static boolean isSlot(int slot) {
    return slot >= 0 && slot < SLOTS;
  }

  private Items tryOn(int map) {
    Items copy = trial.of(map);
    copy.copyFrom(now.of(map));
    return copy;
  }

  // A key right behind another missing one gets the same place and the same looks, and of like
  // ones the least is asked for: only the first of each run of missing keys can be the best.
  private boolean isWorthTrying(int map, int key) {
    Items items = now.of(map);
    if (items.indexOf(key) >= 0 || !items.canTake(key)) {
      return false;
    }
    return key == 0 || items.indexOf(key - 1) >= 0;
  }

  private int looksWith(int map, int key) {
    Items items = tryOn(map);
    items.place(key, 0);
    return items.allLooks();
  }

  private boolean canBe(int doing) {
    int map = doing / 100 % 10;
    int told = doing % 100;
    if (!isMap(map)) {
      return false;
    }
    Items items = trial.of(map);
    switch (doing / 1000) {
      case 1:
        return items.place(told, 0);
      case 2:
        return items.takeOut(told);
      case 3:
        return items.indexOf(told) >= 0;
      case 4:
        return items.top() == told;
      case 5:
        return items.allLooks() <= told;
      default:
        return false;
    }
  }

  private int chanced(int map) {
    return Math.min(MOST_CHANCED, now.of(map).size);
  }

  /** The map without those of its least items whose bit is set in gone, the least gone first. */
  private Items without(int map, int gone) {
    Items items = now.of(map);
    Items left = tryOn(map);
    for (int i = 0; i < MOST_CHANCED && i < items.size; i++) {
      if ((gone >> i & 1) == 1) {
        left.takeOut(items.keys[i]);
      }
    }
    return left;
  }

  // In how many orders of all players those who came ahead of one are a given set.
  private static int ordersAround(int ahead, int players) {
    return factorial(ahead) * factorial(players - 1 - ahead);
  }

  private static int factorial(int n) {
    return n >= 0 && n < FACTORIALS.length ? FACTORIALS[n] : 1;
  }

  private static int weight(int gone, int players, int x) {
    int product = 1;
    for (int i = 0; i < players; i++) {
      product *= (gone >> i & 1) == 1 ? x : 10 - x;
    }
    return product;
  }

  private static int fraction(int above, int below, boolean upper) {
    int common = commonDivisor(Math.abs(above), below);
    if (common < 1) {
      return NONE;
    }
    return (upper ? above : below) / common;
  }

  // Euclid's steps on two ints are under fifty.
  private static int commonDivisor(int a, int b) {
    int greater = a;
    int smaller = b;
    for (int step = 0; step < 100 && smaller != 0; step++) {
      int rest = greater % smaller;
      greater = smaller;
      smaller = rest;
    }
    return greater;
  }

  // A pair's upper bit is the choice of the one, its lower bit that of the other.
  private boolean isAtRest(int map, int one, int other, int pair) {
    return gain(map, one, other, pair, 2) >= gain(map, one, other, pair ^ 2, 2)
        && gain(map, one, other, pair, 1) >= gain(map, one, other, pair ^ 1, 1);
  }

  private int gain(int map, int one, int other, int pair, int whose) {
    if ((pair & whose) == 0) {
      return 4;
    }
    Items items = tryOn(map);
    if ((pair & 2) != 0) {
      items.place(one, 0);
    }
    if ((pair & 1) != 0) {
      items.place(other, 0);
    }
    return 10 - items.looksFor(whose == 2 ? one : other);
  }

  /** One map: its items in a row by keys; the lanes follow from the heights alone. */
  private static final class Items {
    static final int MOST = 40;

    final int[] keys = new int[MOST];
    final int[] values = new int[MOST];
    final int[] heights = new int[MOST];
    int size = 0;

    void copyFrom(Items from) {
      size = from.size;
      System.arraycopy(from.keys, 0, keys, 0, size);
      System.arraycopy(from.values, 0, values, 0, size);
      System.arraycopy(from.heights, 0, heights, 0, size);
    }

    void add(int key, int value, int height) {
      openAt(size, key, value, height);
    }

    int keyAt(int at) {
      return at >= 0 && at < size ? keys[at] : NONE;
    }

    int lesser(int key) {
      int at = 0;
      while (at < size && keys[at] < key) {
        at++;
      }
      return at;
    }

    int indexOf(int key) {
      int at = lesser(key);
      return at < size && keys[at] == key ? at : -1;
    }

    boolean canTake(int key) {
      return size < MOST || indexOf(key) >= 0;
    }

    int top() {
      int top = 0;
      for (int i = 0; i < size; i++) {
        top = Math.max(top, heights[i] + 1);
      }
      return top;
    }

    int allHeights() {
      int all = 0;
      for (int i = 0; i < size; i++) {
        all += heights[i];
      }
      return all;
    }

    int valuesWithin(int a, int b) {
      int all = 0;
      for (int i = 0; i < size; i++) {
        if (keys[i] >= a && keys[i] <= b) {
          all += values[i];
        }
      }
      return all;
    }

    /** The last item of a level ahead of a place; -1 if there is none. */
    int ahead(int place, int level) {
      int at = Math.min(place, size) - 1;
      while (at >= 0 && heights[at] < level) {
        at--;
      }
      return at;
    }

    /** The first item of a level at a place or behind it; the size if there is none. */
    int behind(int place, int level) {
      int at = Math.max(place, 0);
      while (at < size && heights[at] < level) {
        at++;
      }
      return Math.min(at, size);
    }

    int looksFor(int key) {
      int looked = 0;
      int here = -1;
      for (int level = top() - 1; level >= 0; level--) {
        for (int next = here + 1; next < size; next++) {
          if (heights[next] < level) {
            continue;
          }
          looked++;
          if (keys[next] == key) {
            return looked;
          }
          if (keys[next] > key) {
            break;
          }
          here = next;
        }
      }
      return looked;
    }

    // Counted lane by lane, as a search for each key alone would cost a walk for each: a lane's
    // looks for a key are the items passed there since the next higher lane, and one at what
    // lies behind the key, or at the key itself.
    int allLooks() {
      int all = 0;
      for (int level = top() - 1; level >= 0; level--) {
        int last = ahead(size, level);
        int passed = 0;
        for (int i = 0; i < size; i++) {
          if (heights[i] > level) {
            passed = 0;
          } else if (heights[i] == level) {
            passed++;
            all += passed;
          } else {
            all += i < last ? passed + 1 : passed;
          }
        }
      }
      return all;
    }

    /** Puts a key in; false, and nothing changed, if the map is full of others. */
    boolean place(int key, int value) {
      int at = lesser(key);
      if (at < size && keys[at] == key) {
        values[at] = value;
        return true;
      }
      if (size >= MOST) {
        return false;
      }
      for (int level = top(); level >= 1; level--) {
        partIfFull(level, at);
      }
      openAt(at, key, value, 0);
      return true;
    }

    /** Takes a key out; false if it is not there. */
    boolean takeOut(int key) {
      int at = indexOf(key);
      if (at < 0) {
        return false;
      }
      if (heights[at] > 0 && at + 1 < size) {
        changePlaces(at);
        at++;
      }
      for (int level = top() - 1; level >= 1; level--) {
        helpIfPoor(level, at);
      }
      closeAt(at);
      return true;
    }

    int newTo(Items to, int a, int b) {
      int fresh = 0;
      for (int i = 0; i < size; i++) {
        if (keys[i] >= a && keys[i] <= b && to.indexOf(keys[i]) < 0) {
          fresh++;
        }
      }
      return fresh;
    }

    int moveTo(Items to, int a, int b) {
      int moved = 0;
      for (int key = a; key <= b; key++) {
        int at = indexOf(key);
        if (at >= 0) {
          int value = values[at];
          takeOut(key);
          to.place(key, value);
          moved++;
        }
      }
      return moved;
    }

    int otherHeights(Items changed, int but) {
      int others = 0;
      for (int i = 0; i < size; i++) {
        int at = changed.indexOf(keys[i]);
        if (keys[i] != but && at >= 0 && changed.heights[at] != heights[i]) {
          others++;
        }
      }
      return others;
    }

    private void partIfFull(int level, int place) {
      int from = ahead(place, level) + 1;
      int to = behind(place, level);
      if (countOf(level - 1, from, to) == 3) {
        raise(nth(2, level - 1, from, to));
      }
    }

    private void helpIfPoor(int level, int place) {
      int left = ahead(place, level);
      int right = behind(place, level);
      if (countOf(level - 1, left + 1, right) != 1) {
        return;
      }
      if (right < size && heights[right] == level) {
        helpFromBehind(level, right);
      } else if (left >= 0) {
        helpFromAhead(level, left);
      }
    }

    private void helpFromBehind(int level, int fence) {
      int to = behind(fence + 1, level);
      if (countOf(level - 1, fence + 1, to) >= 2) {
        raise(nth(1, level - 1, fence + 1, to));
      }
      heights[fence]--;
    }

    private void helpFromAhead(int level, int fence) {
      int from = ahead(fence, level) + 1;
      int had = countOf(level - 1, from, fence);
      if (had >= 2) {
        raise(nth(had, level - 1, from, fence));
      }
      heights[fence]--;
    }

    private int countOf(int height, int from, int to) {
      int found = 0;
      for (int i = Math.max(from, 0); i < to && i < size; i++) {
        if (heights[i] == height) {
          found++;
        }
      }
      return found;
    }

    private int nth(int n, int height, int from, int to) {
      int found = 0;
      for (int i = Math.max(from, 0); i < to && i < size; i++) {
        if (heights[i] == height) {
          found++;
          if (found == n) {
            return i;
          }
        }
      }
      return -1;
    }

    private void raise(int at) {
      if (at >= 0 && at < size) {
        heights[at]++;
      }
    }

    // Heights stay where they are: so each of the two gets the height of the other one.
    private void changePlaces(int at) {
      int key = keys[at];
      int value = values[at];
      keys[at] = keys[at + 1];
      values[at] = values[at + 1];
      keys[at + 1] = key;
      values[at + 1] = value;
    }

    private void openAt(int at, int key, int value, int height) {
      if (size >= MOST || at < 0 || at > size) {
        return;
      }
      for (int i = size; i > at; i--) {
        keys[i] = keys[i - 1];
        values[i] = values[i - 1];
        heights[i] = heights[i - 1];
      }
      keys[at] = key;
      values[at] = value;
      heights[at] = height;
      size++;
    }

    private void closeAt(int at) {
      if (at < 0 || at >= size) {
        return;
      }
      size--;
      for (int i = at; i < size; i++) {
        keys[i] = keys[i + 1];
        values[i] = values[i + 1];
        heights[i] = heights[i + 1];
      }
    }
  }

  /** Both maps together, as acts and slots keep them. */
  private static final class Both {
    private final Items zero = new Items();
    private final Items one = new Items();

    Items of(int map) {
      return map == 0 ? zero : one;
    }

    void copyFrom(Both from) {
      zero.copyFrom(from.zero);
      one.copyFrom(from.one);
    }

    int items() {
      return zero.size + one.size;
    }
  }

  /** What was ahead of each of the last acts, in a ring so that nothing is made anew. */
  private static final class Acts {
    private static final int MOST = 14;

    private final Both[] before = new Both[MOST];
    private int next = 0;
    int held = 0;

    Acts() {
      for (int i = 0; i < MOST; i++) {
        before[i] = new Both();
      }
    }

    void remember(Both now) {
      before[next].copyFrom(now);
      next = (next + 1) % MOST;
      held = Math.min(held + 1, MOST);
    }

    boolean bringBack(Both now) {
      if (held == 0) {
        return false;
      }
      next = (next + MOST - 1) % MOST;
      held--;
      now.copyFrom(before[next]);
      return true;
    }
  }

  /** The letters that tell a shape, and where they first go wrong. */
  private static final class Text {
    private static final int MOST = 64;
    private static final int MOST_HEIGHT = 5;

    private final int[] letters = new int[MOST];
    // How many items of each height lie in the gap that is still open at the level above it.
    private final int[] open = new int[MOST_HEIGHT + 1];
    int length = 0;

    boolean append(int letter) {
      if (length >= MOST) {
        return false;
      }
      letters[length] = letter;
      length++;
      return true;
    }

    int firstFault() {
      if (length == 0 || letters[0] != 'L') {
        return 0;
      }
      for (int height = 0; height <= MOST_HEIGHT; height++) {
        open[height] = 0;
      }
      for (int place = 1; place < length; place++) {
        if (!fits(place)) {
          return place;
        }
      }
      return length % 3 == 1 && isClosed() ? NONE : length;
    }

    void tellTo(Items items) {
      items.size = 0;
      int key = 0;
      for (int place = 1; place + 2 < length; place += 3) {
        key += figure(place + 1);
        items.add(key, figure(place + 2), figure(place));
      }
    }

    private boolean fits(int place) {
      int figure = figure(place);
      switch (place % 3) {
        case 1:
          return takesHeight(figure);
        case 2:
          return figure >= 1 && figure <= 4;
        default:
          return figure >= 0 && figure <= 9;
      }
    }

    private int figure(int place) {
      return letters[place] - '0';
    }

    // An item ends the gaps of all levels up to its height; what is fine until here can always
    // be ended well by more items, so no letter but this one needs to be looked at.
    private boolean takesHeight(int height) {
      if (height < 0 || height > MOST_HEIGHT || open[height] == 3) {
        return false;
      }
      for (int lower = 0; lower < height; lower++) {
        if (open[lower] == 0) {
          return false;
        }
      }
      for (int lower = 0; lower < height; lower++) {
        open[lower] = 0;
      }
      open[height]++;
      return true;
    }

    private boolean isClosed() {
      for (int height = 1; height <= MOST_HEIGHT; height++) {
        if (open[height] > 0 && open[height - 1] == 0) {
          return false;
        }
      }
      return true;
    }
  }

  /** What searches for an unknown key have told. */
  private static final class Sought {
    static final int MOST_LOOKS = 20;
    private static final int MOST = 6;

    private final int[] maps = new int[MOST];
    private final int[] looked = new int[MOST];
    private final int[] found = new int[MOST];
    int size = 0;

    boolean add(int map, int l, int isFound) {
      if (size >= MOST) {
        return false;
      }
      maps[size] = map;
      looked[size] = l;
      found[size] = isFound;
      size++;
      return true;
    }

    boolean isSo(Both now, int key) {
      for (int i = 0; i < size; i++) {
        Items items = now.of(maps[i]);
        boolean isThere = items.indexOf(key) >= 0;
        if (isThere != (found[i] == 1) || items.looksFor(key) != looked[i]) {
          return false;
        }
      }
      return true;
    }
  }
}
