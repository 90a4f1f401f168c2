import java.util.ArrayDeque;
import java.util.ArrayList;
import java.util.Deque;
import java.util.HashSet;
import java.util.List;
import java.util.Random;
import java.util.Set;
import java.util.TreeMap;
import java.util.TreeSet;

/**
 * Long drawn runs of calls, each answer against a second program that is built another way: there
 * a map is a tree of nodes of one to three keys (a node is a gap, its keys the gap's items, and a
 * node's height above the leaves is the height of its items), and a shape is read by a grammar.
 */
public final class ModelTest {
  private static final int UNKNOWN = -1, BAD = -2, LATE = -3, FULL = -4, NONE = -9;
  private static final String[] NAMES = {
    "write", "wipe", "fault", "shape", "put", "remove", "cut", "undo", "about", "item", "get",
    "span", "rank", "near", "looks", "sum", "would", "best", "judge", "share", "seek", "unseek",
    "keys", "rests", "lost", "seed", "rounds", "keep", "again", "count"
  };
  private static int wrong = 0;

  public static void main(String[] args) {
    int runs = args.length > 0 ? Integer.parseInt(args[0]) : 1500;
    allRows("", 9);
    allShapes("", 12);
    sharesOfNoughtAndLess();
    for (int run = 0; run < runs && wrong < 10; run++) {
      new Run(run).go();
    }
    System.out.println(wrong == 0 ? "ModelTest: all answers agree" : "ModelTest: wrong " + wrong);
    if (wrong != 0) {
      System.exit(1);
    }
  }

  private static String text(String heights) {
    StringBuilder s = new StringBuilder("L");
    for (char h : heights.toCharArray()) {
      s.append(h).append("20");
    }
    return s.toString();
  }

  private static Pair told(String text) {
    Pair pair = new Pair();
    for (char c : text.toCharArray()) {
      pair.check(0, c);
    }
    pair.check(2);
    return pair;
  }

  /** The fault of every row of heights 0 .. 2 up to a length. */
  private static void allRows(String heights, int left) {
    told(text(heights));
    for (int h = 0; h < 3 && left > 0 && wrong == 0; h++) {
      allRows(heights + h, left - 1);
    }
  }

  /** In every shape up to a length each key taken out, and one put in at each place. */
  private static void allShapes(String heights, int left) {
    int[] row = heights.chars().map(c -> c - '0').toArray();
    if (wrong > 0 || !Grammar.canGoOn(row)) {
      return;
    }
    if (Grammar.whole(row)) {
      Pair pair = told(text(heights));
      pair.check(3, 1);
      for (int key = 1; key <= 2 * row.length + 1; key++) {
        pair.check(key % 2 == 0 ? 5 : 4, 1, key, 0);
        pair.checkHeights(1);
        pair.check(7);
      }
    }
    for (int h = 0; h < 4 && left > 0; h++) {
      allShapes(heights + h, left - 1);
    }
  }

  /** Drawn runs hardly ever come to such shares: few items ahead of a high fence, many behind. */
  private static void sharesOfNoughtAndLess() {
    int[][] puts = {
      {31, 19, 37, 33, 21, 34, 25, 63, 62, 67, 50, 53, 81, 78, 73, 69, 54, 83, 70},
      {23, 46, 38, 83, 55, 75, 50, 54, 51, 58, 67, 65, 49, 53, 78, 86, 79, 59, 62},
      {9, 11, 15, 30, 54, 65, 73, 70, 61, 77, 59, 67, 63, 58, 62, 53, 49, 74}};
    String[] heights = {"010102010103010201010", "010201010103010201010", "0102010101030102010"};
    for (int n = 0; n < puts.length; n++) {
      Pair pair = told(text(heights[n]).replaceAll("(.)20", "$140"));
      pair.check(3, 0);
      for (int key : puts[n]) {
        pair.check(4, 0, key, 0);
      }
      pair.checkHeights(0);
      for (int i = 0; i < 4; i++) {
        pair.check(19, 0, i, 1);
        pair.check(19, 0, i, 0);
      }
    }
  }

  // ---------------------------------------------------------------- the tree

  private static final class Node {
    final List<Integer> keys = new ArrayList<>();
    final List<Node> kids = new ArrayList<>();

    boolean leaf() {
      return kids.isEmpty();
    }

    int height() {
      return leaf() ? 0 : 1 + kids.get(0).height();
    }

    Node copy() {
      Node c = new Node();
      c.keys.addAll(keys);
      for (Node k : kids) {
        c.kids.add(k.copy());
      }
      return c;
    }

    int slot(int key) {
      int s = 0;
      while (s < keys.size() && keys.get(s) < key) {
        s++;
      }
      return s;
    }
  }

  private static final class Tree {
    Node root = null;
    final TreeMap<Integer, Integer> values = new TreeMap<>();

    Tree copy() {
      Tree t = new Tree();
      t.root = root == null ? null : root.copy();
      t.values.putAll(values);
      return t;
    }

    int top() {
      return root == null ? 0 : root.height() + 1;
    }

    void put(int key, int value) {
      boolean there = values.containsKey(key);
      values.put(key, value);
      if (there) {
        return;
      }
      if (root == null) {
        root = new Node();
      }
      if (root.keys.size() == 3) {
        Node up = new Node();
        up.kids.add(root);
        root = up;
        split(up, 0);
      }
      Node n = root;
      while (!n.leaf()) {
        int s = n.slot(key);
        if (n.kids.get(s).keys.size() == 3) {
          split(n, s);
          s = n.slot(key);
        }
        n = n.kids.get(s);
      }
      n.keys.add(n.slot(key), key);
    }

    private static void split(Node parent, int s) {
      Node left = parent.kids.get(s);
      Node right = new Node();
      right.keys.add(left.keys.remove(2));
      int mid = left.keys.remove(1);
      if (!left.leaf()) {
        right.kids.add(left.kids.remove(2));
        right.kids.add(left.kids.remove(2));
      }
      parent.keys.add(s, mid);
      parent.kids.add(s + 1, right);
    }

    int remove(int key) {
      int value = values.remove(key);
      // a key of an inner node changes places with the next one, which is then the one to seek
      Integer next = swapDown(root, key);
      int sought = next == null ? key : next;
      Node n = root;
      boolean behind = next != null;
      while (!n.leaf()) {
        int s = n.slot(sought);
        if (behind && s < n.keys.size() && n.keys.get(s) == sought) {
          s++;
        }
        Node kid = n.kids.get(s);
        if (kid.keys.size() == 1) {
          kid = help(n, s);
        }
        if (n == root && n.keys.isEmpty()) {
          root = kid;
        }
        n = kid;
      }
      n.keys.remove(Integer.valueOf(key));
      if (root.keys.isEmpty()) {
        root = null;
      }
      return value;
    }

    private static Integer swapDown(Node root, int key) {
      Node n = root;
      while (true) {
        int s = n.slot(key);
        if (s < n.keys.size() && n.keys.get(s) == key) {
          if (n.leaf()) {
            return null;
          }
          Node d = n.kids.get(s + 1);
          while (!d.leaf()) {
            d = d.kids.get(0);
          }
          int next = d.keys.get(0);
          n.keys.set(s, next);
          d.keys.set(0, key);
          return next;
        }
        n = n.kids.get(s);
      }
    }

    private static Node help(Node parent, int s) {
      Node kid = parent.kids.get(s);
      if (s + 1 < parent.kids.size()) {
        Node right = parent.kids.get(s + 1);
        if (right.keys.size() >= 2) {
          kid.keys.add(parent.keys.get(s));
          parent.keys.set(s, right.keys.remove(0));
          if (!right.leaf()) {
            kid.kids.add(right.kids.remove(0));
          }
          return kid;
        }
        return join(parent, s);
      }
      Node left = parent.kids.get(s - 1);
      if (left.keys.size() >= 2) {
        kid.keys.add(0, parent.keys.get(s - 1));
        parent.keys.set(s - 1, left.keys.remove(left.keys.size() - 1));
        if (!left.leaf()) {
          kid.kids.add(0, left.kids.remove(left.kids.size() - 1));
        }
        return kid;
      }
      return join(parent, s - 1);
    }

    private static Node join(Node parent, int s) {
      Node left = parent.kids.get(s);
      Node right = parent.kids.remove(s + 1);
      left.keys.add(parent.keys.remove(s));
      left.keys.addAll(right.keys);
      left.kids.addAll(right.kids);
      return left;
    }

    int looks(int key) {
      int looked = 0;
      boolean more = false;
      Node n = root;
      while (n != null) {
        int s = n.slot(key);
        looked += s;
        if (s < n.keys.size()) {
          looked++;
          if (n.keys.get(s) == key) {
            return looked;
          }
          more = true;
        } else if (more) {
          looked++;
        }
        n = n.leaf() ? null : n.kids.get(s);
      }
      return looked;
    }

    int allLooks() {
      int all = 0;
      for (int key : values.keySet()) {
        all += looks(key);
      }
      return all;
    }

    TreeMap<Integer, Integer> heights() {
      TreeMap<Integer, Integer> h = new TreeMap<>();
      gather(root, h);
      return h;
    }

    private static void gather(Node n, TreeMap<Integer, Integer> h) {
      if (n != null) {
        int height = n.height();
        for (int key : n.keys) {
          h.put(key, height);
        }
        for (Node k : n.kids) {
          gather(k, h);
        }
      }
    }

    /** A tree from items in a row: the highest are the root's keys, and so on between these. */
    static Tree of(List<int[]> items) {
      Tree t = new Tree();
      int top = 0;
      for (int[] i : items) {
        t.values.put(i[0], i[1]);
        top = Math.max(top, i[2] + 1);
      }
      t.root = top == 0 ? null : build(items, top - 1);
      return t;
    }

    private static Node build(List<int[]> items, int height) {
      Node n = new Node();
      List<int[]> run = new ArrayList<>();
      for (int[] i : items) {
        if (i[2] == height) {
          n.keys.add(i[0]);
          if (height > 0) {
            n.kids.add(build(run, height - 1));
          }
          run = new ArrayList<>();
        } else {
          run.add(i);
        }
      }
      if (height > 0) {
        n.kids.add(build(run, height - 1));
      }
      return n;
    }
  }

  // ---------------------------------------------------------------- shapes by a grammar

  private static final class Grammar {
    final int[] heights;
    boolean ranOut = false;

    Grammar(int[] heights) {
      this.heights = heights;
    }

    /** Where a gap's content, with all below it, may end that begins at a place. */
    Set<Integer> ends(int level, int at) {
      Set<Integer> out = new HashSet<>();
      if (level == 0) {
        out.add(at);
        return out;
      }
      Set<Integer> here = ends(level - 1, at);
      for (int i = 1; i <= 3; i++) {
        Set<Integer> behind = new HashSet<>();
        for (int p : here) {
          if (p == heights.length) {
            ranOut = true;
          } else if (heights[p] == level - 1) {
            behind.addAll(ends(level - 1, p + 1));
          }
        }
        out.addAll(behind);
        here = behind;
      }
      return out;
    }

    static boolean whole(int[] heights) {
      for (int top = 0; top <= 6; top++) {
        if (new Grammar(heights).ends(top, 0).contains(heights.length)) {
          return true;
        }
      }
      return false;
    }

    static boolean canGoOn(int[] heights) {
      for (int top = 1; top <= 6; top++) {
        Grammar g = new Grammar(heights);
        g.ends(top, 0);
        if (g.ranOut) {
          return true;
        }
      }
      return whole(heights);
    }
  }

  // ---------------------------------------------------------------- the second program

  private static final class Model {
    Tree[] maps = {new Tree(), new Tree()};
    final Deque<Tree[]> acts = new ArrayDeque<>();
    final Tree[][] slots = new Tree[2][];
    final List<Integer> text = new ArrayList<>();
    final List<int[]> sought = new ArrayList<>();
    long seed = 0;

    private static Tree[] copy(Tree[] maps) {
      return new Tree[] {maps[0].copy(), maps[1].copy()};
    }

    private void act() {
      acts.addLast(copy(maps));
      if (acts.size() > 14) {
        acts.removeFirst();
      }
    }

    private static boolean noMap(long m) {
      return m < 0 || m > 1;
    }

    private static boolean noKey(long k) {
      return k < 0 || k > 99;
    }

    long answer(int call, long[] a) {
      switch (NAMES[call]) {
        case "write":
          if (a[0] < 0 || a[0] > 255) {
            return BAD;
          }
          if (text.size() == 64) {
            return FULL;
          }
          text.add((int) a[0]);
          return text.size();
        case "wipe":
          int was = text.size();
          text.clear();
          return was;
        case "fault":
          return fault();
        case "shape":
          return shape(a[0]);
        case "put":
          return put(a[0], a[1], a[2]);
        case "remove":
          if (noMap(a[0]) || noKey(a[1])) {
            return UNKNOWN;
          }
          if (!maps[(int) a[0]].values.containsKey((int) a[1])) {
            return LATE;
          }
          act();
          return maps[(int) a[0]].remove((int) a[1]);
        case "cut":
          return cut(a[0], a[1], a[2]);
        case "undo":
          if (acts.isEmpty()) {
            return LATE;
          }
          maps = acts.removeLast();
          return acts.size();
        case "about":
          return about(a[0], a[1]);
        case "item":
          return item(a[0], a[1], a[2]);
        case "seed":
          long old = seed;
          seed = a[0];
          return old;
        case "rounds":
          return rounds(a[0], a[1]);
        case "keep":
          if (a[0] < 0 || a[0] > 1) {
            return UNKNOWN;
          }
          slots[(int) a[0]] = copy(maps);
          return maps[0].values.size() + maps[1].values.size();
        case "again":
          if (a[0] < 0 || a[0] > 1) {
            return UNKNOWN;
          }
          if (slots[(int) a[0]] == null) {
            return LATE;
          }
          maps = copy(slots[(int) a[0]]);
          acts.clear();
          return maps[0].values.size() + maps[1].values.size();
        case "count":
          return a[0] == 0 ? acts.size() : a[0] == 1 ? sought.size() : a[0] == 2 ? text.size() : BAD;
        default:
          return answerMore(call, a);
      }
    }

    private long answerMore(int call, long[] a) {
      switch (NAMES[call]) {
        case "seek":
          if (noMap(a[0])) {
            return UNKNOWN;
          }
          if (a[1] < 0 || a[1] > 20 || (a[2] != 0 && a[2] != 1)) {
            return BAD;
          }
          if (sought.size() == 6) {
            return FULL;
          }
          sought.add(new int[] {(int) a[0], (int) a[1], (int) a[2]});
          return sought.size();
        case "unseek":
          int was = sought.size();
          sought.clear();
          return was;
        case "keys":
          return keys(a[0]);
        case "best":
          return best(a[0], a[1]);
        case "judge":
          return judge(a[0], a[1]);
        case "share":
          return share(a[0], a[1], a[2] == 1);
        case "lost":
          return lost(a[0], a[1], a[2], a[3] == 1);
        case "rests":
          return rests(a);
        default:
          return answerKey(call, a);
      }
    }

    private long answerKey(int call, long[] a) {
      if (noMap(a[0]) || noKey(a[1])) {
        return UNKNOWN;
      }
      Tree t = maps[(int) a[0]];
      int key = (int) a[1];
      switch (NAMES[call]) {
        case "get":
          return t.values.getOrDefault(key, NONE);
        case "span":
          if (!t.values.containsKey(key)) {
            return LATE;
          }
          if (a[2] < 0 || a[2] > t.heights().get(key)) {
            return BAD;
          }
          int far = 1;
          for (int h : t.heights().tailMap(key, false).values()) {
            if (h >= a[2]) {
              break;
            }
            far++;
          }
          return far;
        case "rank":
          return t.values.headMap(key).size();
        case "near":
          if (a[2] != 0 && a[2] != 1) {
            return BAD;
          }
          Integer k = a[2] == 0 ? t.values.floorKey(key) : t.values.ceilingKey(key);
          return k == null ? NONE : k;
        case "looks":
          return t.looks(key);
        case "sum":
          if (noKey(a[2])) {
            return UNKNOWN;
          }
          if (a[1] > a[2]) {
            return BAD;
          }
          return t.values.subMap(key, true, (int) a[2], true).values().stream()
              .mapToInt(Integer::intValue).sum();
        case "would":
          return would(t, key, a[2]);
        default:
          throw new IllegalStateException(NAMES[call]);
      }
    }

    private long would(Tree t, int key, long what) {
      if (what < 0 || what > 2) {
        return BAD;
      }
      Tree c = t.copy();
      if (c.values.containsKey(key)) {
        c.remove(key);
      } else if (c.values.size() == 40) {
        return FULL;
      } else {
        c.put(key, 0);
      }
      if (what == 1) {
        return c.top();
      }
      if (what == 2) {
        return c.allLooks();
      }
      TreeMap<Integer, Integer> before = t.heights();
      TreeMap<Integer, Integer> after = c.heights();
      before.remove(key);
      after.remove(key);
      int others = 0;
      for (int k : before.keySet()) {
        others += before.get(k).equals(after.get(k)) ? 0 : 1;
      }
      return others;
    }

    private long put(long m, long k, long v) {
      if (noMap(m) || noKey(k)) {
        return UNKNOWN;
      }
      if (v < 0 || v > 999999) {
        return BAD;
      }
      Tree t = maps[(int) m];
      if (t.values.size() == 40 && !t.values.containsKey((int) k)) {
        return FULL;
      }
      act();
      t.put((int) k, (int) v);
      return t.values.size();
    }

    private long cut(long m, long a, long b) {
      if (noMap(m) || noKey(a) || noKey(b)) {
        return UNKNOWN;
      }
      if (a > b) {
        return BAD;
      }
      Tree from = maps[(int) m];
      Tree to = maps[1 - (int) m];
      TreeMap<Integer, Integer> range =
          new TreeMap<>(from.values.subMap((int) a, true, (int) b, true));
      Set<Integer> union = new TreeSet<>(to.values.keySet());
      union.addAll(range.keySet());
      if (union.size() > 40) {
        return FULL;
      }
      act();
      for (int key : range.keySet()) {
        to.put(key, from.remove(key));
      }
      return range.size();
    }

    private long about(long m, long what) {
      if (noMap(m)) {
        return UNKNOWN;
      }
      Tree t = maps[(int) m];
      switch ((int) what) {
        case 0:
          return t.values.size();
        case 1:
          return t.top();
        case 2:
          return t.heights().values().stream().mapToInt(Integer::intValue).sum();
        case 3:
          return t.values.isEmpty() ? NONE : t.values.firstKey();
        case 4:
          return t.values.isEmpty() ? NONE : t.values.lastKey();
        case 5:
          return t.allLooks();
        default:
          return BAD;
      }
    }

    private long item(long m, long i, long what) {
      if (noMap(m) || i < 0 || i >= maps[(int) m].values.size()) {
        return UNKNOWN;
      }
      Tree t = maps[(int) m];
      int key = new ArrayList<>(t.values.keySet()).get((int) i);
      return what == 0 ? key : what == 1 ? t.values.get(key) : what == 2 ? t.heights().get(key) : BAD;
    }

    private long fault() {
      List<Integer> heights = new ArrayList<>();
      for (int p = 0; p < text.size(); p++) {
        int letter = text.get(p);
        boolean fine;
        if (p == 0) {
          fine = letter == 'L';
        } else if (p % 3 == 1) {
          heights.add(letter - '0');
          fine = letter >= '0' && letter <= '5' && Grammar.canGoOn(ints(heights));
        } else if (p % 3 == 2) {
          fine = letter >= '1' && letter <= '4';
        } else {
          fine = letter >= '0' && letter <= '9';
        }
        if (!fine) {
          return p;
        }
      }
      boolean ended = text.size() % 3 == 1 && Grammar.whole(ints(heights));
      return ended ? NONE : text.size();
    }

    private static int[] ints(List<Integer> list) {
      return list.stream().mapToInt(Integer::intValue).toArray();
    }

    private long shape(long m) {
      if (noMap(m)) {
        return UNKNOWN;
      }
      if (fault() != NONE) {
        return LATE;
      }
      act();
      List<int[]> items = new ArrayList<>();
      int key = 0;
      for (int p = 1; p < text.size(); p += 3) {
        key += text.get(p + 1) - '0';
        items.add(new int[] {key, text.get(p + 2) - '0', text.get(p) - '0'});
      }
      maps[(int) m] = Tree.of(items);
      return items.size();
    }

    private long best(long m, long what) {
      if (noMap(m)) {
        return UNKNOWN;
      }
      if (what != 0 && what != 1) {
        return BAD;
      }
      Tree t = maps[(int) m];
      if (t.values.size() == 40) {
        return NONE;
      }
      int which = NONE;
      int fewest = Integer.MAX_VALUE;
      for (int key = 99; key >= 0; key--) {
        if (!t.values.containsKey(key)) {
          Tree c = t.copy();
          c.put(key, 0);
          if (c.allLooks() <= fewest) {
            fewest = c.allLooks();
            which = key;
          }
        }
      }
      return what == 0 ? which : fewest;
    }

    private long judge(long n, long row) {
      if (n < 1 || n > 4 || row < 0 || Long.toString(row).length() > 4 * n) {
        return BAD;
      }
      StringBuilder figures = new StringBuilder(Long.toString(row));
      while (figures.length() < 4 * n) {
        figures.insert(0, '0');
      }
      Tree[] c = copy(maps);
      for (int i = 0; i < n; i++) {
        int kind = figures.charAt(4 * i) - '0';
        int m = figures.charAt(4 * i + 1) - '0';
        int told = Integer.parseInt(figures.substring(4 * i + 2, 4 * i + 4));
        if (m > 1 || kind < 1 || kind > 5 || !holds(c[m], kind, told)) {
          return i;
        }
      }
      return NONE;
    }

    private static boolean holds(Tree t, int kind, int told) {
      boolean there = t.values.containsKey(told);
      if (kind == 1) {
        if (!there && t.values.size() == 40) {
          return false;
        }
        t.put(told, 0);
        return true;
      }
      if (kind == 2 && there) {
        t.remove(told);
      }
      return kind <= 3 ? there : kind == 4 ? t.top() == told : t.allLooks() <= told;
    }

    /** All orders, one by one. */
    private long share(long m, long i, boolean upper) {
      if (noMap(m) || i < 0 || i > 3 || i >= maps[(int) m].values.size()) {
        return UNKNOWN;
      }
      Tree t = maps[(int) m];
      List<Integer> least = new ArrayList<>(t.values.keySet());
      least = least.subList(0, Math.min(4, least.size()));
      long[] sum = {0, 0};
      orders(t, least, new ArrayList<>(), least.get((int) i), sum);
      return told(sum[0], sum[1], upper);
    }

    private void orders(Tree t, List<Integer> all, List<Integer> come, int who, long[] sum) {
      if (come.size() == all.size()) {
        List<Integer> ahead = come.subList(0, come.indexOf(who));
        List<Integer> with = come.subList(0, come.indexOf(who) + 1);
        sum[0] += less(t, ahead).allLooks() - less(t, with).allLooks();
        sum[1]++;
        return;
      }
      for (int key : all) {
        if (!come.contains(key)) {
          List<Integer> next = new ArrayList<>(come);
          next.add(key);
          orders(t, all, next, who, sum);
        }
      }
    }

    private static Tree less(Tree t, List<Integer> gone) {
      Tree c = t.copy();
      for (int key : new TreeSet<>(gone)) {
        c.remove(key);
      }
      return c;
    }

    private static long told(long above, long below, boolean upper) {
      for (long d = below; d > 1; d--) {
        if (above % d == 0 && below % d == 0) {
          above /= d;
          below /= d;
        }
      }
      return upper ? above : below;
    }

    private long lost(long m, long h, long x, boolean upper) {
      if (noMap(m)) {
        return UNKNOWN;
      }
      if (h < 0 || h > 9 || x < 0 || x > 10) {
        return BAD;
      }
      List<Integer> least = new ArrayList<>(maps[(int) m].values.keySet());
      least = least.subList(0, Math.min(4, least.size()));
      return told(chance(maps[(int) m], least, h, x), (long) Math.pow(10, least.size()), upper);
    }

    private static long chance(Tree t, List<Integer> left, long h, long x) {
      if (left.isEmpty()) {
        return t.top() <= h ? 1 : 0;
      }
      Tree gone = t.copy();
      gone.remove(left.get(0));
      List<Integer> rest = left.subList(1, left.size());
      return x * chance(gone, rest, h, x) + (10 - x) * chance(t, rest, h, x);
    }

    private long keys(long what) {
      if (what != 0 && what != 1) {
        return BAD;
      }
      List<Integer> fit = new ArrayList<>();
      for (int key = 0; key < 100; key++) {
        boolean so = true;
        for (int[] s : sought) {
          Tree t = maps[s[0]];
          so &= t.looks(key) == s[1] && t.values.containsKey(key) == (s[2] == 1);
        }
        if (so) {
          fit.add(key);
        }
      }
      return what == 0 ? fit.size() : fit.isEmpty() ? NONE : fit.get(0);
    }

    private long rests(long[] a) {
      if (noMap(a[0]) || noKey(a[1]) || noKey(a[2])) {
        return UNKNOWN;
      }
      if (a[1] == a[2] || (a[3] != 0 && a[3] != 1)) {
        return BAD;
      }
      Tree t = maps[(int) a[0]];
      if (t.values.containsKey((int) a[1]) || t.values.containsKey((int) a[2])) {
        return LATE;
      }
      if (t.values.size() >= 39) {
        return FULL;
      }
      int[][][] gains = new int[2][2][];
      for (int p = 0; p < 2; p++) {
        for (int q = 0; q < 2; q++) {
          Tree c = t.copy();
          if (p == 1) {
            c.put((int) a[1], 0);
          }
          if (q == 1) {
            c.put((int) a[2], 0);
          }
          gains[p][q] = new int[] {
            p == 1 ? 10 - c.looks((int) a[1]) : 4, q == 1 ? 10 - c.looks((int) a[2]) : 4
          };
        }
      }
      List<Integer> rest = new ArrayList<>();
      for (int p = 0; p < 2; p++) {
        for (int q = 0; q < 2; q++) {
          if (gains[1 - p][q][0] <= gains[p][q][0] && gains[p][1 - q][1] <= gains[p][q][1]) {
            rest.add(10 * p + q);
          }
        }
      }
      return a[3] == 0 ? rest.size() : rest.isEmpty() ? NONE : rest.get(0);
    }

    private long rounds(long m, long n) {
      if (noMap(m)) {
        return UNKNOWN;
      }
      if (n < 1 || n > 30) {
        return BAD;
      }
      Tree c = maps[(int) m].copy();
      long all = 0;
      for (int i = 0; i < n; i++) {
        seed = seed * 6364136223846793005L + 1442695040888963407L;
        int r = (int) (Long.divideUnsigned(seed, 1L << 33) % 200);
        if (r < 100 && c.values.size() < 40) {
          c.put(r, 0);
        } else if (r >= 100 && c.values.containsKey(r - 100)) {
          c.remove(r - 100);
        }
        all += c.allLooks();
      }
      return all;
    }
  }

  // ---------------------------------------------------------------- both side by side

  private static final class Pair {
    final ThreeGaps real = new ThreeGaps();
    final Model model = new Model();
    final StringBuilder story = new StringBuilder();

    void checkHeights(int map) {
      for (int i = 0; i < model.maps[map].values.size(); i++) {
        check(9, map, i, 0);
        check(9, map, i, 2);
      }
    }

    void check(int call, long... a) {
      if (wrong > 0) {
        return;
      }
      story.append(NAMES[call]).append(java.util.Arrays.toString(a)).append('\n');
      long got = real(call, a);
      long want = model.answer(call, a);
      if (got != want) {
        wrong++;
        System.out.println(story + "answered " + got + ", due is " + want);
      }
    }

    long real(int call, long[] a) {
      int[] i = new int[4];
      for (int k = 0; k < a.length; k++) {
        i[k] = (int) a[k];
      }
      switch (NAMES[call]) {
        case "write": return real.write(i[0]);
        case "wipe": return real.wipe();
        case "fault": return real.fault();
        case "shape": return real.shape(i[0]);
        case "put": return real.put(i[0], i[1], i[2]);
        case "remove": return real.remove(i[0], i[1]);
        case "cut": return real.cut(i[0], i[1], i[2]);
        case "undo": return real.undo();
        case "about": return real.about(i[0], i[1]);
        case "item": return real.item(i[0], i[1], i[2]);
        case "get": return real.get(i[0], i[1]);
        case "span": return real.span(i[0], i[1], i[2]);
        case "rank": return real.rank(i[0], i[1]);
        case "near": return real.near(i[0], i[1], i[2]);
        case "looks": return real.looks(i[0], i[1]);
        case "sum": return real.sum(i[0], i[1], i[2]);
        case "would": return real.would(i[0], i[1], i[2]);
        case "best": return real.best(i[0], i[1]);
        case "judge": return real.judge(i[0], a[1]);
        case "share": return real.share(i[0], i[1], i[2] == 1);
        case "seek": return real.seek(i[0], i[1], i[2]);
        case "unseek": return real.unseek();
        case "keys": return real.keys(i[0]);
        case "rests": return real.rests(i[0], i[1], i[2], i[3]);
        case "lost": return real.lost(i[0], i[1], i[2], i[3] == 1);
        case "seed": return real.seed(a[0]);
        case "rounds": return real.rounds(i[0], i[1]);
        case "keep": return real.keep(i[0]);
        case "again": return real.again(i[0]);
        case "count": return real.count(i[0]);
        default: throw new IllegalStateException(NAMES[call]);
      }
    }
  }

  // ---------------------------------------------------------------- runs

  private static final class Run {
    final Random draw;
    final Pair pair = new Pair();
    final Model model = pair.model;
    final int range;
    final int more;

    Run(int number) {
      draw = new Random(number);
      range = new int[] {100, 100, 44, 30, 12}[draw.nextInt(5)];
      more = draw.nextInt(4);
    }

    void go() {
      for (int calls = 0; calls < 512; calls++) {
        int call = pick();
        if (call == 0) {
          calls += text() - 1;
        } else {
          pair.check(call, drawn(call));
        }
        if (wrong > 0) {
          return;
        }
      }
    }

    int pick() {
      int roll = draw.nextInt(100);
      if (more == 3 && draw.nextInt(8) == 0) {
        return 0;
      }
      if (more == 0 ? roll < 65 : roll < 35) {
        return 4;
      }
      if (roll < (more == 1 ? 60 : 42)) {
        return more == 0 ? 4 : 5;
      }
      return draw.nextInt(NAMES.length);
    }

    /** A text drawn from a tree of its own, mostly with a letter or two spoiled. */
    int text() {
      if (draw.nextInt(4) == 0) {
        pair.check(0, draw.nextInt(300) - 20);
        return 1;
      }
      Tree t = new Tree();
      int items = draw.nextInt(23);
      boolean up = draw.nextBoolean();
      for (int i = 0; i < items; i++) {
        t.put(up ? i : draw.nextInt(100), 0);
      }
      StringBuilder s = new StringBuilder("L");
      for (int h : t.heights().values()) {
        s.append(h).append(1 + draw.nextInt(4)).append(draw.nextInt(10));
      }
      for (int spoil = draw.nextInt(3); spoil > 0; spoil--) {
        spoil(s);
      }
      if (draw.nextInt(4) == 0) {
        s.setLength(draw.nextInt(s.length() + 1));
      }
      int calls = 3;
      pair.check(1);
      for (int i = 0; i < s.length(); i++) {
        pair.check(0, s.charAt(i));
        if (draw.nextInt(6) == 0) {
          pair.check(2);
          calls++;
        }
        calls++;
      }
      pair.check(2);
      pair.check(3, draw.nextInt(2));
      return calls;
    }

    void spoil(StringBuilder s) {
      int item = s.length() / 3 == 0 ? 0 : 1 + 3 * draw.nextInt(s.length() / 3);
      if (item == 0 || draw.nextInt(3) == 0) {
        s.setCharAt(draw.nextInt(s.length()), "L0123456789:/M".charAt(draw.nextInt(14)));
      } else if (draw.nextBoolean()) {
        s.delete(item, item + 3);
      } else {
        s.insert(item, s.substring(item, Math.min(item + 3, s.length())));
      }
    }

    long map() {
      return draw.nextInt(30) == 0 ? draw.nextInt(5) - 2 : draw.nextInt(2);
    }

    long key() {
      return draw.nextInt(40) == 0 ? draw.nextInt(220) - 60 : draw.nextInt(range);
    }

    long what(int n) {
      return draw.nextInt(20) == 0 ? draw.nextInt(n + 6) - 3 : draw.nextInt(n);
    }

    long[] drawn(int call) {
      switch (NAMES[call]) {
        case "shape":
          return new long[] {map()};
        case "put":
          return new long[] {map(), key(), draw.nextInt(9) == 0
              ? new long[] {-1, 0, 999999, 1000000, Integer.MIN_VALUE}[draw.nextInt(5)]
              : draw.nextInt(1000000)};
        case "cut":
        case "sum":
          return new long[] {map(), key(), key()};
        case "about":
          return new long[] {map(), what(6)};
        case "item":
          return new long[] {map(), draw.nextInt(42) - 1, what(3)};
        case "span":
          return new long[] {map(), key(), what(3)};
        case "near":
          return new long[] {map(), key(), what(2)};
        case "would":
          return new long[] {map(), key(), what(3)};
        case "best":
          return new long[] {map(), what(2)};
        case "judge":
          return judged();
        case "share":
          return new long[] {map(), what(4), draw.nextInt(2)};
        case "seek":
          return new long[] {map(), draw.nextInt(3) == 0 ? what(21) : 1 + draw.nextInt(6), what(2)};
        case "keys":
        case "keep":
        case "again":
          return new long[] {what(2)};
        case "count":
          return new long[] {what(3)};
        case "rests":
          return new long[] {map(), key(), key(), what(2)};
        case "lost":
          return new long[] {map(), draw.nextInt(5) == 0 ? what(10) : draw.nextInt(4), what(11),
              draw.nextInt(2)};
        case "seed":
          return new long[] {draw.nextLong()};
        case "rounds":
          return new long[] {map(), what(31)};
        case "remove":
        case "get":
        case "rank":
        case "looks":
          return new long[] {map(), key()};
        default:
          return new long[0];
      }
    }

    long[] judged() {
      int n = (int) what(5);
      long row = 0;
      for (int i = 0; i < n; i++) {
        Tree t = model.maps[draw.nextInt(2)];
        int kind = draw.nextInt(12) == 0 ? draw.nextInt(10) : 1 + draw.nextInt(5);
        int m = draw.nextInt(20) == 0 ? draw.nextInt(10) : t == model.maps[0] ? 0 : 1;
        int told = draw.nextInt(range);
        if (kind == 4) {
          told = Math.max(0, t.top() + draw.nextInt(3) - 1);
        } else if (kind == 5) {
          told = Math.min(99, Math.max(0, t.allLooks() + draw.nextInt(9) - 4));
        } else if (!t.values.isEmpty() && draw.nextInt(3) > 0) {
          Integer there = t.values.ceilingKey(told);
          told = there == null ? told : there;
        }
        row = row * 10000 + kind * 1000 + m * 100 + told;
      }
      if (draw.nextInt(25) == 0) {
        row = draw.nextBoolean() ? draw.nextLong() : (long) Math.pow(10, 4 * Math.max(n, 0));
      }
      return new long[] {n, row};
    }
  }
}
