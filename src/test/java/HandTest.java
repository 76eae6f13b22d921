/** Promises 18 and 19: THE HAND's map, and whether it fits THE WALK. */
public final class HandTest {
  private static final int UNKNOWN = 32767;

  public static void main(String[] args) {
    handRefused();
    fitsAtTheBeginning();
    fits();
    everyAct();
    theLastPlace();
    pressing();
    pebble();
    Check.end();
  }

  /** Five digits to the base 8, as the document tells them: that of ACT 0 the lowest. */
  private static int leads(int a0, int a1, int a2, int a3, int a4) {
    return a0 + 8 * a1 + 64 * a2 + 512 * a3 + 4096 * a4;
  }

  private static void handRefused() {
    RoomMapper x = Check.cells(0);
    int[][] wrong = {{-1, 0, 0}, {6, 0, 0}, {0, -1, 0}, {0, 4, 0}, {0, 0, -1}, {0, 0, 32768}, {0, 0, Integer.MIN_VALUE},
      {Integer.MAX_VALUE, 0, 0}, {0, Integer.MAX_VALUE, 0}, {0, 0, Integer.MAX_VALUE}};
    for (int[] w : wrong) {
      Check.due("hand(" + w[0] + ", " + w[1] + ", " + w[2] + ")", x.hand(w[0], w[1], w[2]), -1);
    }
    x.start(1);
    x.act(0);
    Check.due("refused ones change nothing", x.fits(), 1);
    for (int p = 0; p < 6; p++) {
      Check.due("hand(" + p + ", 3, 32767)", x.hand(p, 3, UNKNOWN), 0);
    }
  }

  private static void fitsAtTheBeginning() {
    RoomMapper x = Check.cells(0);
    Check.due("fits() without a start", x.fits(), -2);
    x.start(1);
    Check.due("all signs are 0 at first", x.fits(), 0);
    x.act(0);
    Check.due("and all acts unknown", x.fits(), 1);
    x.lead(0, 1, 1, 0);
    x.start(1);
    x.act(1);
    Check.due("not even to place 0", x.fits(), 1);
    x.hand(0, 1, leads(6, 6, 6, 6, 6));
    Check.due("another sign", x.fits(), -4);
    RoomMapper y = Check.cells(2);
    y.hand(0, 1, UNKNOWN);
    Check.due("fits() without a start, with another sign", y.fits(), -2);
    y.start(1);
    Check.due("another sign, before any act", y.fits(), -4);
    y.hand(0, 2, UNKNOWN);
    Check.due("that sign", y.fits(), 0);
    y.start(3);
    Check.due("a start leaves the hand's map", y.fits(), 0);
  }

  private static void fits() {
    RoomMapper x = Check.cells(0, 1, 1);
    x.lead(0, 0, 1, 1);
    x.lead(1, 1, 1, 2);
    x.lead(2, 2, 1, 0);
    x.start(6);
    Check.acts(x, "0123");
    x.hand(0, 0, leads(1, 7, 7, 6, 7));
    x.hand(1, 1, leads(7, 2, 7, 7, 7));
    x.hand(2, 1, leads(7, 7, 0, 7, 7));
    Check.due("it fits", x.fits(), 0);
    Check.due("and fits again", x.fits(), 0);
    x.hand(0, 0, leads(1, 7, 7, 0, 7));
    Check.due("a bump, not a way to itself", x.fits(), 4);
    x.hand(2, 1, leads(7, 7, 6, 7, 7));
    Check.due("a way, not a bump", x.fits(), 3);
    x.hand(2, 1, leads(7, 7, 1, 7, 7));
    Check.due("a way to another sign", x.fits(), 3);
    x.hand(1, 1, leads(7, 7, 7, 7, 7));
    Check.due("an unknown one", x.fits(), 2);
    x.hand(1, 3, leads(7, 2, 7, 7, 7));
    Check.due("another sign behind the first act", x.fits(), 1);
    Check.due("the walk is not harmed", x.count(4), 4);
    x.start(6);
    Check.due("an empty walk fits", x.fits(), 0);
  }

  private static void everyAct() {
    RoomMapper x = Check.cells(0);
    for (int a = 0; a < 5; a++) {
      x.start(1);
      x.act(a);
      for (int b = 0; b < 5; b++) {
        int[] d = {7, 7, 7, 7, 7};
        d[b] = 6;
        x.hand(0, 0, leads(d[0], d[1], d[2], d[3], d[4]));
        Check.due("act " + a + " on a map of act " + b, x.fits(), a == b ? 0 : 1);
      }
    }
  }

  private static void theLastPlace() {
    RoomMapper x = Check.cells(0, 3);
    x.lead(0, 1, 1, 1);
    x.start(1);
    Check.acts(x, "12");
    x.hand(0, 0, leads(7, 5, 7, 7, 7));
    x.hand(5, 3, leads(7, 7, 6, 7, 7));
    Check.due("by place 5", x.fits(), 0);
    x.hand(5, 2, leads(7, 7, 6, 7, 7));
    Check.due("by place 5 with another sign", x.fits(), 1);
  }

  private static void pressing() {
    RoomMapper x = new RoomMapper();
    x.cell(0, true);
    x.cell(1, false);
    x.lead(0, 0, 2, 1);
    x.start(6);
    Check.acts(x, "040");
    x.hand(0, 0, leads(6, 7, 7, 7, 1));
    x.hand(1, 0, leads(2, 7, 7, 7, 0));
    x.hand(2, 1, UNKNOWN);
    Check.due("pressing leads to another place", x.fits(), 0);
    x.hand(0, 0, leads(6, 7, 7, 7, 6));
    Check.due("6 of act 4 stays", x.fits(), 3);
    x.hand(0, 0, leads(6, 7, 7, 7, 2));
    Check.due("to another sign", x.fits(), 2);
    RoomMapper y = Check.cells(1, 2);
    y.lead(0, 0, 1, 1);
    y.start(2);
    Check.acts(y, "044");
    y.hand(0, 1, leads(3, 7, 7, 7, 7));
    y.hand(3, 2, leads(7, 7, 7, 7, 6));
    Check.due("6 of act 4 stays at place 3", y.fits(), 0);
  }

  private static void pebble() {
    RoomMapper x = Check.cells(0, 0);
    x.lead(0, 0, 1, 1);
    x.lead(1, 0, 1, 0);
    x.start(6);
    Check.acts(x, "500");
    x.hand(0, 0, leads(0, 7, 7, 7, 7));
    Check.due("one place would show the pebble", x.fits(), 2);
    x.hand(0, 0, leads(1, 7, 7, 7, 7));
    x.hand(1, 0, leads(0, 7, 7, 7, 7));
    Check.due("two places fit", x.fits(), 0);
    x.hand(1, 0, leads(2, 7, 7, 7, 7));
    Check.due("a third wouldn't show the pebble", x.fits(), 3);
    x.hand(1, 0, leads(0, 7, 7, 7, 7));
    Check.acts(x, "50500500");
    Check.due("taken and dropped elsewhere", x.fits(), 0);
    x.start(6);
    Check.acts(x, "50550");
    Check.due("nothing to take", x.fits(), 0);
  }
}
