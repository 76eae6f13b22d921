/** Promises 23 to 28: the SHELVES. */
public final class ShelfTest {
  public static void main(String[] args) {
    keepRefused();
    keepLead();
    keepActs();
    keepSigns();
    make();
    element();
    copy();
    copyRefused();
    weightAndToss();
    Check.end();
  }

  private static void rowIs(RoomMapper x, int d, long... row) {
    for (int i = 0; i < row.length; i++) {
      Check.due("element(" + d + ", " + i + ")", Check.element(x, d, i), row[i]);
    }
    Check.due("behind the row on " + d, Check.element(x, d, row.length), Check.NO_ELEMENT);
  }

  private static void keepRefused() {
    RoomMapper x = Check.cells(0);
    for (int d : new int[] {-1, 8, Integer.MIN_VALUE, Integer.MAX_VALUE}) {
      for (int what = 0; what < 5; what++) {
        Check.due("keep on no shelf", x.keep(d, what, 0), -1);
      }
    }
    for (int what : new int[] {-1, 2, 5, Integer.MAX_VALUE}) {
      Check.due("keep(0, " + what + ", 0)", x.keep(0, what, 0), -1);
    }
    for (int k : new int[] {-1, -4, 4, 40, Integer.MIN_VALUE, Integer.MAX_VALUE}) {
      Check.due("keep(0, 1, " + k + ")", x.keep(0, 1, k), -1);
    }
    Check.due("acts without a start", x.keep(0, 3, 0), -1);
    Check.due("signs without a start", x.keep(0, 4, 0), -1);
    Check.due("nothing was kept", x.weight(0), -11);
    x.keep(0, 1, 0);
    x.start(1);
    Check.due("signs of no sheet", x.keep(0, 4, 1), -1);
    Check.due("signs of sheet -1", x.keep(0, 4, -1), -1);
    Check.due("a refused one changes nothing", x.weight(0), 1);
    Check.due("keep nothing", x.keep(0, 0, -77), 0);
    Check.due("nothing is held", x.weight(0), -11);
    Check.due("nothing to see", Check.element(x, 0, 0), Check.NO_ELEMENT);
  }

  private static void keepLead() {
    RoomMapper x = Check.cells(0, 0, 0, 0, 0, 0, 0, 0, 0, 0);
    x.lead(9, 3, 1, 7);
    x.lead(2, 1, 1, 5);
    Check.due("the last lead", x.keep(7, 1, 39), 0);
    Check.due("lead 1 of cell 2", x.keep(0, 1, 9), 0);
    Check.due("it leads to 7", x.weight(7), 17);
    Check.due("it leads to 5", x.weight(0), 15);
    x.lead(2, 1, 4, 8);
    Check.due("as it was then", x.weight(0), 15);
    Check.due("as it was thrown then", x.toss(0), 5);
    x.keep(0, 1, 9);
    Check.due("as it is now", x.weight(0), 2018);
  }

  private static void keepActs() {
    RoomMapper x = Check.cells(0);
    x.start(1);
    Check.due("no acts", x.keep(0, 3, 99), 0);
    rowIs(x, 0);
    Check.acts(x, "012345");
    rowIs(x, 0);
    Check.due("six acts", x.keep(0, 3, -1), 0);
    rowIs(x, 0, 0, 1, 2, 3, 4, 5);
    for (int i = 6; i < 60; i++) {
      x.act(i % 5);
    }
    x.keep(1, 3, 0);
    Check.due("the first of sixty", Check.element(x, 1, 0), 0);
    Check.due("the last of sixty", Check.element(x, 1, 59), 59 % 5);
    x.act(5);
    x.keep(2, 3, 0);
    Check.due("the first one is left out", Check.element(x, 2, 0), 1);
    Check.due("the latest is there", Check.element(x, 2, 59), 5);
    Check.due("sixty at most", Check.element(x, 2, 60), Check.NO_ELEMENT);
    Check.due("they are bytes", x.copy(2, 0, 1, 0, 60), 60);
  }

  private static void keepSigns() {
    RoomMapper x = Check.cells(3, 1, 2);
    x.lead(0, 0, 1, 1);
    x.lead(1, 0, 1, 2);
    x.start(6);
    x.keep(3, 4, 0);
    rowIs(x, 3, 3);
    Check.acts(x, "00");
    rowIs(x, 3, 3);
    Check.due("keep(3, 4, 0)", x.keep(3, 4, 0), 0);
    rowIs(x, 3, 3, 1, 2);
    x.make(4, 4, 3);
    Check.due("they are longs", x.copy(3, 0, 4, 0, 3), 3);
    x.start(1);
    x.act(0);
    Check.due("no sheet any more", x.keep(3, 4, 0), -1);
    rowIs(x, 3, 3, 1, 2);
  }

  private static void make() {
    RoomMapper x = Check.cells(0);
    Check.due("make(0, 3, 60)", x.make(0, 3, 60), 0);
    Check.due("its last", Check.element(x, 0, 59), 0);
    Check.due("make(0, 3, 61)", x.make(0, 3, 61), -1);
    Check.due("make(0, 4, 61)", x.make(0, 4, 61), -1);
    Check.due("make(0, 3, -1)", x.make(0, 3, -1), -14);
    Check.due("make(0, 4, min)", x.make(0, 4, Integer.MIN_VALUE), -14);
    Check.due("make(8, 3, -1)", x.make(8, 3, -1), -1);
    Check.due("make(-1, 3, 1)", x.make(-1, 3, 1), -1);
    for (int what : new int[] {-1, 0, 1, 2, 5}) {
      Check.due("make(0, " + what + ", 1)", x.make(0, what, 1), -1);
      Check.due("make(0, " + what + ", -1)", x.make(0, what, -1), -1);
    }
    Check.due("refused ones change nothing", Check.element(x, 0, 59), 0);
    Check.due("an empty row", x.make(7, 4, 0), 0);
    rowIs(x, 7);
    Check.due("is held", x.weight(7), -12);
    x.start(1);
    Check.acts(x, "333");
    x.keep(1, 3, 0);
    rowIs(x, 1, 3, 3, 3);
    x.make(1, 3, 4);
    rowIs(x, 1, 0, 0, 0, 0);
  }

  private static void element() {
    RoomMapper x = Check.cells(0);
    for (int d : new int[] {-1, 8, Integer.MIN_VALUE, Integer.MAX_VALUE}) {
      Check.due("element(" + d + ", 0)", Check.element(x, d, 0), Check.NO_SHELF);
    }
    Check.due("of nothing", Check.element(x, 0, 0), Check.NO_ELEMENT);
    x.keep(0, 1, 0);
    Check.due("of a lead", Check.element(x, 0, 0), Check.NO_ELEMENT);
    x.make(0, 4, 2);
    for (int i : new int[] {-1, 2, 59, 60, Integer.MIN_VALUE, Integer.MAX_VALUE}) {
      Check.due("element(0, " + i + ")", Check.element(x, 0, i), Check.NO_ELEMENT);
    }
    rowIs(x, 0, 0, 0);
    x.keep(0, 1, 0);
    Check.due("of a lead where a row was", Check.element(x, 0, 0), Check.NO_ELEMENT);
  }

  private static RoomMapper withActs() {
    RoomMapper x = Check.cells(0);
    x.start(1);
    Check.acts(x, "12345");
    x.keep(0, 3, 0);
    return x;
  }

  private static void copy() {
    RoomMapper x = withActs();
    x.make(1, 3, 4);
    Check.due("three in the middle", x.copy(0, 1, 1, 0, 3), 3);
    rowIs(x, 1, 2, 3, 4, 0);
    rowIs(x, 0, 1, 2, 3, 4, 5);
    Check.due("upwards in itself", x.copy(0, 0, 0, 1, 4), 4);
    rowIs(x, 0, 1, 1, 2, 3, 4);
    Check.due("downwards in itself", x.copy(0, 1, 0, 0, 4), 4);
    rowIs(x, 0, 1, 2, 3, 4, 4);
    Check.due("none, at both ends", x.copy(0, 5, 1, 4, 0), 0);
    Check.due("the last one", x.copy(0, 4, 1, 3, 1), 1);
    rowIs(x, 1, 2, 3, 4, 4);
    x.make(0, 3, 5);
    rowIs(x, 1, 2, 3, 4, 4);
  }

  private static void copyRefused() {
    RoomMapper x = withActs();
    x.make(1, 3, 3);
    x.make(2, 4, 5);
    x.keep(3, 1, 0);
    int max = Integer.MAX_VALUE;
    int[][] calls = {
      {-1, 0, 1, 0, 1, -1}, {8, 0, 1, 0, 1, -1}, {0, 0, -1, 0, 1, -1}, {0, 0, 8, 0, 1, -1}, {8, 0, 7, 0, -1, -1},
      {7, 0, 0, 0, 1, -11}, {0, 0, 7, 0, 1, -11}, {7, 0, 7, 0, -1, -11}, {3, 0, 7, 0, 1, -11}, {7, 0, 3, 0, 1, -11},
      {3, 0, 0, 0, 1, -12}, {0, 0, 3, 0, 1, -12}, {3, 0, 3, 0, 0, -12}, {0, 0, 2, 0, 1, -12}, {2, 0, 0, 0, 1, -12},
      {2, 0, 0, 0, -1, -12}, {0, 0, 1, 0, -1, -13}, {0, -1, 1, 0, 1, -13}, {0, 0, 1, -1, 1, -13},
      {0, 0, 1, 0, 4, -13}, {0, 3, 1, 0, 3, -13}, {0, 0, 1, 1, 3, -13}, {0, 6, 1, 0, 0, -13}, {0, 0, 1, 4, 0, -13},
      {1, 0, 0, 0, 4, -13}, {0, 1, 1, 0, max, -13}, {0, max, 1, 0, 1, -13}, {0, 0, 1, max, 1, -13},
      {0, max, 1, max, max, -13}, {0, 1, 1, 1, Integer.MIN_VALUE, -13}};
    for (int[] c : calls) {
      Check.due("copy(" + c[0] + ", " + c[1] + ", " + c[2] + ", " + c[3] + ", " + c[4] + ")",
          x.copy(c[0], c[1], c[2], c[3], c[4]), c[5]);
    }
    rowIs(x, 0, 1, 2, 3, 4, 5);
    rowIs(x, 1, 0, 0, 0);
    rowIs(x, 2, 0, 0, 0, 0, 0);
  }

  private static void weightAndToss() {
    RoomMapper x = Check.cells(0, 0, 0, 0, 0, 0, 0, 0, 0, 0);
    for (int to = 0; to < 10; to++) {
      int[] weights = {1, 10 + to, 110 + to, 1010 + to, 2010 + to, 2 * (110 + to)};
      for (int kind = 0; kind < 6; kind++) {
        x.lead(4, 2, kind, to);
        x.keep(5, 1, 18);
        Check.due("weight of kind " + kind + " to " + to, x.weight(5), weights[kind]);
        Check.due("toss of kind " + kind + " to " + to, x.toss(5), kind == 0 ? -15 : to);
      }
    }
    x.make(6, 3, 2);
    x.make(7, 4, 2);
    for (int d : new int[] {-1, 8, Integer.MIN_VALUE, Integer.MAX_VALUE}) {
      Check.due("weight(" + d + ")", x.weight(d), -1);
      Check.due("toss(" + d + ")", x.toss(d), -1);
    }
    Check.due("weight of nothing", x.weight(0), -11);
    Check.due("toss of nothing", x.toss(0), -11);
    for (int d = 6; d < 8; d++) {
      Check.due("weight of a row", x.weight(d), -12);
      Check.due("toss of a row", x.toss(d), -12);
    }
    x.lead(0, 0, 0, 9);
    x.keep(1, 1, 0);
    Check.due("weight of a wall told with a cell", x.weight(1), 1);
    Check.due("toss of a wall told with a cell", x.toss(1), -15);
  }
}
