/** Promises 1 to 7, 21 and 22: THE HOUSE, and THE WALKER in it. */
public final class HouseTest {
  public static void main(String[] args) {
    aNewObject();
    cell();
    leadAnswers();
    waysAndWalls();
    turned();
    slides();
    doorsAndGates();
    plates();
    start();
    act();
    pebble();
    walk();
    count();
    reached();
    Check.end();
  }

  private static void aNewObject() {
    RoomMapper x = new RoomMapper();
    Check.due("new: count(0)", x.count(0), 0);
    Check.due("new: act(0)", x.act(0), -2);
    Check.due("new: seen(0)", x.seen(0), -2);
    Check.due("new: walk(0, 0)", x.walk(0, 0), -1);
    Check.due("new: sheets()", x.sheets(), -2);
    Check.due("new: reached()", x.reached(), -2);
    Check.due("new: start(1)", x.start(1), -2);
    Check.due("new: way(0)", x.way(0), -1);
    for (int d = 0; d < 8; d++) {
      Check.due("new: weight(d)", x.weight(d), -11);
    }
  }

  private static void cell() {
    RoomMapper x = new RoomMapper();
    Check.due("cell(-1)", x.cell(-1, false), -1);
    Check.due("cell(4)", x.cell(4, false), -1);
    Check.due("cell(max)", x.cell(Integer.MAX_VALUE, true), -1);
    for (int i = 0; i < 10; i++) {
      Check.due("cell " + i, x.cell(i % 4, i % 2 == 0), i);
      Check.due("count(0) behind it", x.count(0), i + 1);
    }
    Check.due("an eleventh cell", x.cell(0, false), -2);
    Check.due("an eleventh cell, with a wrong sign", x.cell(4, false), -1);
    Check.due("count(0) of ten", x.count(0), 10);
  }

  private static void leadAnswers() {
    RoomMapper x = Check.cells(0, 1);
    int[] kinds = {1, 2, 3, 4, 5, 0, 5};
    int before = 0;
    for (int kind : kinds) {
      Check.due("lead to kind " + kind, x.lead(1, 3, kind, 1), before);
      before = kind;
    }
    int[][] wrong = {{-1, 0, 1, 0}, {2, 0, 1, 0}, {0, -1, 1, 0}, {0, 4, 1, 0}, {0, 0, -1, 0}, {0, 0, 6, 0},
      {0, 0, 1, -1}, {0, 0, 1, 2}, {0, 0, 5, Integer.MIN_VALUE}, {2, 0, 0, 0}, {0, 4, 0, 0}};
    for (int[] w : wrong) {
      Check.due("lead(" + w[0] + ", " + w[1] + ", " + w[2] + ", " + w[3] + ")", x.lead(w[0], w[1], w[2], w[3]), -1);
    }
    Check.due("a refused lead changes nothing", x.lead(0, 0, 0, Integer.MIN_VALUE), 0);
    Check.due("a wall leads to any number", x.lead(1, 3, 0, Integer.MAX_VALUE), 5);
    Check.due("and is a wall", x.lead(1, 3, 1, 0), 0);
  }

  private static void waysAndWalls() {
    RoomMapper x = Check.cells(0, 3);
    x.lead(0, 1, 1, 1);
    x.start(6);
    Check.due("a wall bumps", x.act(0), 1);
    Check.due("as is seen", x.seen(2), 1);
    Check.due("and one stays", x.count(1), 0);
    Check.due("a way doesn't bump", x.act(1), 0);
    Check.due("and leads on", x.count(1), 1);
    Check.due("its sign", x.seen(0), 3);
    x.lead(1, 2, 1, 1);
    Check.due("a way to the same cell doesn't bump", x.act(2), 0);
    x.lead(1, 2, 0, 0);
    Check.due("a wall put there later does", x.act(2), 1);
    x.cell(2, false);
    x.lead(1, 2, 1, 2);
    Check.due("a cell that came behind the start", x.act(2), 0);
    Check.due("its sign", x.seen(0), 2);
  }

  private static void turned() {
    RoomMapper x = Check.cells(0, 1);
    x.lead(0, 0, 4, 0);
    x.lead(0, 1, 4, 0);
    x.lead(0, 3, 1, 1);
    x.start(6);
    Check.due("turn by lead 0", x.act(0), 0);
    Check.due("turned by 1", x.count(2), 1);
    Check.due("act 0 is lead 1 now", x.act(0), 0);
    Check.due("turned by 2", x.count(2), 2);
    Check.due("act 0 is lead 2 now", x.act(0), 1);
    Check.due("a bump turns nobody", x.count(2), 2);
    Check.due("act 2 is lead 0", x.act(2), 0);
    Check.due("turned by 3", x.count(2), 3);
    Check.due("act 2 is lead 1", x.act(2), 0);
    Check.due("turned by 4 is by 0", x.count(2), 0);
    Check.due("act 3 is lead 3", x.act(3), 0);
    Check.due("a way turns nobody", x.count(2), 0);
    Check.due("the way's end", x.count(1), 1);
    x.start(6);
    x.act(0);
    x.start(6);
    Check.due("a start turns back", x.count(2), 0);
  }

  private static void slides() {
    RoomMapper x = Check.cells(0, 0, 0, 0);
    x.lead(0, 2, 3, 1);
    x.lead(1, 2, 3, 2);
    x.lead(2, 2, 1, 3);
    x.lead(2, 1, 3, 3);
    x.start(6);
    Check.due("a slide", x.act(2), 0);
    Check.due("goes on by slides as the same lead alone", x.count(1), 2);
    Check.due("a slide into a cell without", x.act(1), 0);
    Check.due("ends there", x.count(1), 3);
    RoomMapper ring = Check.cells(0, 1, 2);
    for (int i = 0; i < 3; i++) {
      ring.lead(i, 0, 3, (i + 1) % 3);
    }
    ring.start(6);
    ring.act(0);
    Check.due("a ring of slides: once and ten times more", ring.count(1), 2);
    RoomMapper row = Check.cells(0, 0, 0, 0, 0, 0, 0, 0, 0, 0);
    for (int i = 0; i < 9; i++) {
      row.lead(i, 3, 3, i + 1);
    }
    row.start(6);
    row.act(3);
    Check.due("ten cells in a row", row.count(1), 9);
    RoomMapper turnedSlide = Check.cells(0, 1, 2);
    turnedSlide.lead(0, 0, 4, 0);
    turnedSlide.lead(0, 1, 3, 1);
    turnedSlide.lead(1, 1, 3, 2);
    turnedSlide.lead(1, 0, 0, 0);
    turnedSlide.start(6);
    turnedSlide.act(0);
    turnedSlide.act(0);
    Check.due("the same lead, not the same act", turnedSlide.count(1), 2);
  }

  private static void doorsAndGates() {
    RoomMapper x = new RoomMapper();
    x.cell(0, true);
    x.cell(1, true);
    x.lead(0, 0, 2, 1);
    x.lead(0, 1, 5, 1);
    x.lead(1, 0, 1, 0);
    x.start(6);
    Check.due("a shut door", x.act(0), 1);
    Check.due("a shut gate", x.act(1), 1);
    Check.due("press", x.act(4), 0);
    Check.due("the switch", x.count(3), 1);
    Check.due("an open door", x.act(0), 0);
    Check.due("leaves the switch", x.count(3), 1);
    x.act(0);
    Check.due("an open gate", x.act(1), 0);
    Check.due("leads on", x.count(1), 1);
    Check.due("and the switch is off behind it", x.count(3), 0);
    x.act(0);
    Check.due("so it is shut", x.act(1), 1);
    Check.due("and the door, too", x.act(0), 1);
    x.act(4);
    x.start(6);
    Check.due("off at the start", x.count(3), 0);
  }

  private static void plates() {
    RoomMapper x = new RoomMapper();
    x.cell(0, false);
    x.cell(0, true);
    x.lead(0, 0, 1, 1);
    x.start(6);
    Check.due("press without a plate", x.act(4), 0);
    Check.due("does nothing", x.count(3), 0);
    x.act(0);
    x.act(4);
    Check.due("on", x.count(3), 1);
    x.act(4);
    Check.due("and off", x.count(3), 0);
    Check.due("and nobody went", x.count(1), 1);
  }

  private static void start() {
    RoomMapper x = new RoomMapper();
    Check.due("start(0) without cells", x.start(0), -1);
    Check.due("start(7) without cells", x.start(7), -1);
    Check.due("start(6) without cells", x.start(6), -2);
    Check.due("no start was made", x.count(1), -2);
    x.cell(2, false);
    x.cell(1, false);
    x.lead(0, 0, 1, 1);
    Check.due("start(-1)", x.start(-1), -1);
    Check.due("no start was made by -1", x.sheets(), -2);
    for (int m = 1; m <= 6; m++) {
      Check.due("start(" + m + ")", x.start(m), 0);
      Check.acts(x, "504");
      Check.due("the walker left", x.count(1), 1);
    }
    Check.due("start(7)", x.start(7), -1);
    Check.due("a refused start changes nothing", x.count(4), 3);
    x.start(2);
    int[] due = {2, 0, 0, 0, 0, -2};
    for (int what = 0; what < 6; what++) {
      Check.due("count(" + what + ") at the start", x.count(what), due[what]);
    }
    Check.due("sheets() at the start", x.sheets(), 1);
    Check.due("places at the start", x.sheet(0, 0), 1);
    Check.due("known acts at the start", x.sheet(0, 3), 0);
    Check.due("the first place's sign", x.sign(0, 0), 2);
    Check.due("the walk at the start", x.walk(0, 0), -1);
  }

  private static void act() {
    RoomMapper x = new RoomMapper();
    Check.due("act(6) without a start", x.act(6), -1);
    Check.due("act(5) without a start", x.act(5), -2);
    x.cell(0, false);
    Check.due("act(5) with a cell, without a start", x.act(5), -2);
    x.start(1);
    Check.due("act(-1)", x.act(-1), -1);
    Check.due("act(6)", x.act(6), -1);
    for (int i = 0; i < 200; i++) {
      Check.due("act " + i, x.act(i % 6), i % 6 < 4 ? 1 : 0);
    }
    Check.due("a full walk", x.act(0), -3);
    Check.due("a full walk and no such act", x.act(6), -1);
    Check.due("count(4) of a full walk", x.count(4), 200);
    Check.due("its last act", x.walk(199, 0), 1);
    Check.due("no act behind it", x.walk(200, 0), -1);
    x.start(1);
    Check.due("a start makes room", x.act(0), 1);
  }

  private static void pebble() {
    RoomMapper x = Check.cells(0, 1);
    x.lead(0, 0, 1, 1);
    x.lead(1, 0, 1, 0);
    Check.due("seen(-1) without a start", x.seen(-1), -1);
    Check.due("seen(4) without a start", x.seen(4), -1);
    x.start(6);
    Check.due("seen(4)", x.seen(4), -1);
    Check.due("no bump yet", x.seen(2), 0);
    Check.due("it has the pebble", x.seen(3), 1);
    Check.due("which doesn't lie there", x.seen(1), 0);
    Check.due("drop", x.act(5), 0);
    Check.due("it has it no more", x.seen(3), 0);
    Check.due("it lies there", x.seen(1), 1);
    Check.due("count(5) of the dropped", x.count(5), 0);
    x.act(0);
    Check.due("not in the next cell", x.seen(1), 0);
    Check.due("where there is nothing to take", x.act(5), 0);
    Check.due("so it has none", x.seen(3), 0);
    Check.due("and it lies where it lay", x.count(5), 0);
    x.act(0);
    Check.due("there it is", x.seen(1), 1);
    Check.due("take", x.act(5), 0);
    Check.due("it has it again", x.seen(3), 1);
    Check.due("and it is gone from there", x.seen(1), 0);
    Check.due("count(5) of the taken", x.count(5), -2);
    x.act(1);
    Check.due("bumped", x.seen(2), 1);
    x.act(5);
    Check.due("the pebble bumps nobody", x.seen(2), 0);
    x.act(1);
    Check.due("bumped beside the pebble", x.seen(2) + 2 * x.seen(1), 3);
    x.start(6);
    Check.due("a start gives it back", x.seen(3), 1);
    Check.due("and forgets the bump", x.seen(2), 0);
  }

  private static void walk() {
    RoomMapper x = Check.cells(2, 3);
    x.lead(0, 0, 1, 1);
    x.start(6);
    Check.acts(x, "5101254");
    int[][] due = {{5, 0, 2, 1}, {1, 1, 2, 1}, {0, 0, 3, 0}, {1, 1, 3, 0}, {2, 1, 3, 0}, {5, 0, 3, 0}, {4, 0, 3, 0}};
    for (int i = 0; i < due.length; i++) {
      for (int what = 0; what < 4; what++) {
        Check.due("walk(" + i + ", " + what + ")", x.walk(i, what), due[i][what]);
      }
      Check.due("walk(" + i + ", 4)", x.walk(i, 4), -1);
      Check.due("walk(" + i + ", -1)", x.walk(i, -1), -1);
    }
    Check.due("walk(7, 0)", x.walk(7, 0), -1);
    Check.due("walk(-1, 0)", x.walk(-1, 0), -1);
  }

  private static void count() {
    RoomMapper x = new RoomMapper();
    for (int what = 1; what < 6; what++) {
      Check.due("count without a start", x.count(what), -2);
    }
    Check.due("count(6) without a start", x.count(6), -1);
    Check.due("count(-1) without a start", x.count(-1), -1);
    x.cell(0, true);
    Check.due("count(0) without a start", x.count(0), 1);
    x.lead(0, 0, 4, 0);
    x.start(1);
    Check.acts(x, "0405");
    int[] due = {1, 0, 1, 1, 4, 0};
    for (int what = 0; what < 6; what++) {
      Check.due("count(" + what + ")", x.count(what), due[what]);
    }
    Check.due("count(6)", x.count(6), -1);
  }

  private static void reached() {
    RoomMapper x = new RoomMapper();
    x.cell(0, false);
    Check.due("reached without a start", x.reached(), -2);
    x.start(1);
    Check.due("reached within walls", x.reached(), 1);
    x.lead(0, 0, 4, 0);
    Check.due("reached by turns: lead 0 is act 3 then", x.reached(), 4);
    x.cell(0, true);
    x.lead(0, 1, 1, 1);
    Check.due("reached: no way back from the plate", x.reached(), 4 + 4 * 2);
    x.lead(1, 0, 1, 0);
    Check.due("reached: and all with the switch", x.reached(), 16);
    x.cell(0, false);
    x.lead(1, 1, 5, 2);
    Check.due("reached: behind a gate the switch is off", x.reached(), 16 + 4);
    x.lead(1, 1, 2, 2);
    Check.due("reached: behind a door it is on", x.reached(), 16 + 4);
    x.lead(2, 0, 5, 2);
    Check.due("reached: a gate behind the door", x.reached(), 16 + 8);
    Check.due("the walker still stands there", x.count(1) + x.count(2) + x.count(3), 0);
    x.act(1);
    x.lead(1, 0, 0, 0);
    x.lead(1, 1, 0, 0);
    Check.due("reached: from where it is alone", x.reached(), 2);
    RoomMapper full = new RoomMapper();
    for (int i = 0; i < 10; i++) {
      full.cell(0, true);
    }
    for (int i = 0; i < 10; i++) {
      full.lead(i, 0, 1, (i + 1) % 10);
      full.lead(i, 1, 4, i);
    }
    full.start(1);
    Check.due("reached: all that there is", full.reached(), 80);
  }
}
