/** Promises 16, 17 and 20: ways on a map, and a map held against THE HOUSE. */
public final class WayTest {
  public static void main(String[] args) {
    goAndWay();
    theLeastActs();
    byPressing();
    goRefused();
    isTrue();
    trueWithTurnAndSwitch();
    theHouseChanges();
    Check.end();
  }

  /** Four CELLS of four SIGNS, so that four PLACES leave nothing to guess. */
  private static RoomMapper square() {
    RoomMapper x = Check.cells(0, 1, 2, 3);
    for (int i = 0; i < 4; i++) {
      x.lead(i, 0, 1, (i + 1) % 4);
      x.lead(i, 3, 1, (i + 1) % 4);
      x.lead(i, 2, 1, (i + 3) % 4);
    }
    return x;
  }

  private static void wayIs(RoomMapper x, int... acts) {
    for (int i = 0; i < acts.length; i++) {
      Check.due("way(" + i + ")", x.way(i), acts[i]);
    }
    Check.due("way behind its end", x.way(acts.length), -1);
    Check.due("way(-1)", x.way(-1), -1);
  }

  private static void goAndWay() {
    RoomMapper x = square();
    x.start(4);
    wayIs(x);
    Check.due("to where it is", x.go(0, 0), 0);
    wayIs(x);
    Check.acts(x, "3333");
    Check.due("one sheet", x.sheets(), 1);
    Check.due("to the third place", x.go(0, 2), 2);
    wayIs(x, 3, 3);
    Check.due("to the last place", x.go(0, 3), 3);
    wayIs(x, 3, 3, 3);
    Check.acts(x, "1");
    Check.due("a bump brings nobody nearer", x.go(0, 3), 3);
    x.act(2);
    Check.due("back one", x.go(0, 2), 3);
    wayIs(x, 3, 3, 3);
    x.act(3);
    Check.due("now one by one", x.go(0, 3), 1);
    wayIs(x, 2);
    Check.due("a refused one", x.go(0, 4), -1);
    wayIs(x, 2);
    x.act(3);
    wayIs(x, 2);
    x.start(4);
    wayIs(x, 2);
    Check.due("nowhere, told anew", x.go(0, 0), 0);
    wayIs(x);
  }

  private static void theLeastActs() {
    RoomMapper x = square();
    x.start(4);
    Check.acts(x, "3333" + "0000");
    Check.due("two steps by the least", x.go(0, 2), 2);
    wayIs(x, 0, 0);
    x.start(4);
    Check.acts(x, "03003");
    Check.due("by unlike acts", x.go(0, 0), 3);
    wayIs(x, 3, 0, 0);
    x.start(4);
    Check.acts(x, "0000");
    Check.due("by act 0 alone", x.go(0, 3), 3);
    wayIs(x, 0, 0, 0);
    x.start(4);
    Check.acts(x, "3333" + "0000" + "2222");
    Check.due("the other way round is as long, and not the least", x.go(0, 2), 2);
    wayIs(x, 0, 0);
    Check.due("one back", x.go(0, 3), 1);
    wayIs(x, 2);
  }

  private static void byPressing() {
    RoomMapper x = Check.cells(0);
    x.start(2);
    Check.acts(x, "44");
    Check.due("three sheets", x.sheets(), 3);
    Check.due("by a press", x.go(1, 1), 1);
    wayIs(x, 4);
    Check.due("there already", x.go(2, 1), 0);
    Check.due("no way back", x.go(2, 0), -2);
    wayIs(x);
  }

  private static void goRefused() {
    RoomMapper x = square();
    Check.due("go without a start", x.go(0, 0), -1);
    x.start(4);
    x.act(0);
    Check.due("what is unknown is no way", x.go(0, 0), -2);
    int[][] wrong = {{-1, 0}, {1, 0}, {0, -1}, {0, 2}, {0, 6}, {150, 0}, {Integer.MAX_VALUE, 0}, {0, Integer.MIN_VALUE}};
    for (int[] w : wrong) {
      Check.due("go(" + w[0] + ", " + w[1] + ")", x.go(w[0], w[1]), -1);
    }
    x.start(1);
    x.act(0);
    Check.due("go without sheets", x.go(0, 0), -1);
    Check.due("isTrue without sheets", x.isTrue(0), -1);
  }

  private static void isTrue() {
    RoomMapper x = Check.ring(0, 0, 1);
    Check.due("isTrue without a start", x.isTrue(0), -1);
    x.start(3);
    Check.due("where nothing is known", x.isTrue(0), 1);
    Check.due("isTrue(-1)", x.isTrue(-1), -1);
    Check.due("isTrue(1)", x.isTrue(1), -1);
    x.act(0);
    Check.due("by act 0 another sign comes", x.isTrue(0), 0);
    Check.due("where nothing is known of the place", x.isTrue(1), 1);
    Check.due("isTrue(2)", x.isTrue(2), -1);
    Check.acts(x, "00");
    Check.due("back to place 0 or 1", x.sheets(), 2);
    Check.due("the ring as it is", x.isTrue(0), 1);
    Check.due("the ring too short", x.isTrue(1), 0);
    RoomMapper y = Check.cells(0, 0);
    y.lead(0, 0, 1, 1);
    y.lead(1, 0, 1, 0);
    y.start(2);
    Check.acts(y, "05");
    Check.due("the pebble is left out", y.isTrue(0), 1);
    y.start(2);
    Check.acts(y, "00");
    y.lead(0, 3, 1, 0);
    Check.due("true as far as it is known", y.isTrue(0), 1);
    y.act(3);
    Check.due("a bump behind an act", y.isTrue(0), 0);
  }

  private static void trueWithTurnAndSwitch() {
    RoomMapper x = Check.cells(0);
    x.lead(0, 0, 4, 0);
    x.start(1);
    x.act(0);
    Check.due("turned, act 0 bumps", x.isTrue(0), 0);
    RoomMapper y = new RoomMapper();
    y.cell(0, true);
    y.cell(1, false);
    y.lead(0, 0, 2, 1);
    y.start(2);
    Check.acts(y, "0");
    Check.due("a shut door", y.isTrue(0), 1);
    y.act(4);
    Check.due("pressing stays on one sheet", y.leads(0, 0, 4), 0);
    Check.due("but the door is open now", y.isTrue(0), 0);
    Check.due("on the other sheet it is another place", y.leads(1, 0, 4), 1);
    Check.due("of which nothing is known", y.isTrue(1), 1);
    y.act(4);
    Check.due("shut again, but a press would open it", y.isTrue(0), 0);
    Check.due("the press there and back is true", y.leads(1, 1, 4) == 0 ? y.isTrue(1) : -9, 1);
  }

  private static void theHouseChanges() {
    RoomMapper x = Check.cells(0, 1);
    x.lead(0, 0, 1, 1);
    x.lead(1, 0, 1, 0);
    x.start(2);
    Check.acts(x, "0010");
    Check.due("true", x.isTrue(0), 1);
    x.lead(0, 1, 1, 0);
    Check.due("a wall that is gone, behind an act", x.isTrue(0), 0);
    x.lead(0, 1, 0, 0);
    Check.due("and back", x.isTrue(0), 1);
    x.lead(1, 0, 1, 1);
    Check.due("a way to another sign", x.isTrue(0), 0);
    x.lead(1, 0, 0, 1);
    Check.due("a way that is a wall", x.isTrue(0), 0);
    x.lead(1, 0, 3, 0);
    Check.due("a slide does as well", x.isTrue(0), 1);
    x.lead(1, 3, 1, 0);
    Check.due("what isn't known can't be false", x.isTrue(0), 1);
  }
}
