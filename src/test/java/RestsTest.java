import java.util.Arrays;
import java.util.function.Consumer;

/**
 * Promise 25 on every picture of two keys' ways through a map that a text can tell: `rests` must
 * answer what `put`, `looks` and `undo` show of the four pairs.
 *
 * <p>Which gaps are parted and how many looks a key takes depends only on the gaps on the way to it,
 * so all other gaps are left at one item: these pictures stand for every map of so many items.
 */
public final class RestsTest {
  private static final int MOST_TOLD = 21;
  private static final int ONE = -1, OTHER = -2;
  private static final int IS_ONE = 1, IS_OTHER = 2, ARE_BOTH = 3;
  private static int pictures = 0;
  private static int wrong = 0;

  public static void main(String[] args) {
    for (int height = -1; height <= 3; height++) {
      ways(height, ARE_BOTH, MOST_TOLD, RestsTest::look);
    }
    if (pictures != 139156) {
      wrong++;
      System.out.println(pictures + " pictures were tried, not 139156");
    }
    System.out.println("RestsTest (" + pictures + " pictures): " + (wrong == 0 ? "all as due" : wrong + " wrong"));
    if (wrong != 0) {
      System.exit(1);
    }
  }

  /** All rows of heights of a gap and what lies below it, with the missing keys in their places. */
  private static void ways(int height, int who, int most, Consumer<int[]> taker) {
    if (height < 0) {
      places(who, taker);
      return;
    }
    int below = least(height - 1);
    for (int items = 1; items <= 3; items++) {
      int spare = most - items - (items + 1) * below;
      if (spare < 0) {
        return;
      }
      int n = items;
      for (int at = 0; at <= n; at++) {
        int a = at;
        ways(height - 1, who, below + spare, way -> taker.accept(row(height, n, a, way, -1, null)));
        for (int b = 0; b <= n && who == ARE_BOTH; b++) {
          if (a != b) {
            parted(height, n, a, b, spare, taker);
          }
        }
      }
    }
  }

  private static void parted(int height, int items, int a, int b, int spare, Consumer<int[]> taker) {
    int below = least(height - 1);
    ways(height - 1, IS_ONE, below + spare, one -> {
      int left = below + spare - (itemsOf(one) - below);
      ways(height - 1, IS_OTHER, left, other -> taker.accept(row(height, items, a, one, b, other)));
    });
  }

  private static void places(int who, Consumer<int[]> taker) {
    if (who == ARE_BOTH) {
      taker.accept(new int[] {ONE, OTHER});
      taker.accept(new int[] {OTHER, ONE});
    } else {
      taker.accept(new int[] {who == IS_ONE ? ONE : OTHER});
    }
  }

  private static int least(int height) {
    return (1 << height + 1) - 1;
  }

  private static int itemsOf(int[] row) {
    return (int) Arrays.stream(row).filter(h -> h >= 0).count();
  }

  private static int[] row(int height, int items, int a, int[] one, int b, int[] other) {
    int[] all = new int[0];
    for (int i = 0; i <= items; i++) {
      all = joined(all, i == a ? one : i == b ? other : plain(height - 1));
      if (i < items) {
        all = joined(all, new int[] {height});
      }
    }
    return all;
  }

  private static int[] plain(int height) {
    return height < 0 ? new int[0] : row(height, 1, 0, plain(height - 1), 1, plain(height - 1));
  }

  private static int[] joined(int[] first, int[] second) {
    int[] both = Arrays.copyOf(first, first.length + second.length);
    System.arraycopy(second, 0, both, first.length, second.length);
    return both;
  }

  private static void look(int[] row) {
    pictures++;
    ThreeGaps x = new ThreeGaps();
    int[] missing = tell(x, row);
    int one = missing[0];
    int other = missing[1];
    x.put(0, one, 0);
    int oneAlone = 10 - x.looks(0, one);
    x.put(0, other, 0);
    int oneOfBoth = 10 - x.looks(0, one);
    int otherOfBoth = 10 - x.looks(0, other);
    x.undo();
    x.undo();
    x.put(0, other, 0);
    int otherAlone = 10 - x.looks(0, other);
    x.undo();
    int[] resting = new int[4];
    int n = 0;
    if (oneAlone <= 4 && otherAlone <= 4) {
      resting[n++] = 0;
    }
    if (oneOfBoth <= 4 && otherAlone >= 4) {
      resting[n++] = 1;
    }
    if (oneAlone >= 4 && otherOfBoth <= 4) {
      resting[n++] = 10;
    }
    if (oneOfBoth >= 4 && otherOfBoth >= 4) {
      resting[n++] = 11;
    }
    due(row, "how many", x.rests(0, one, other, 0), n);
    due(row, "the first", x.rests(0, one, other, 1), n == 0 ? ThreeGaps.NONE : resting[0]);
  }

  /** Shapes map 0 by a row, each thing of which has the next key; answers the two missing keys. */
  private static int[] tell(ThreeGaps x, int[] row) {
    int[] missing = new int[2];
    int last = 0;
    x.write('L');
    for (int i = 0; i < row.length; i++) {
      int key = i + 1;
      if (row[i] < 0) {
        missing[row[i] == ONE ? 0 : 1] = key;
      } else {
        x.write('0' + row[i]);
        x.write('0' + key - last);
        x.write('0');
        last = key;
      }
    }
    due(row, "shape", x.shape(0), itemsOf(row));
    return missing;
  }

  private static void due(int[] row, String what, int got, int want) {
    if (got != want) {
      wrong++;
      if (wrong <= 10) {
        System.out.println("p25 " + Arrays.toString(row) + " " + what + ": " + got + ", due is " + want);
      }
    }
  }
}
