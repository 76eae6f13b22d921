/** Promises 13 to 15: places that prove to be one, and rows of ACTS that PART the SHEETS. */
public final class PartTest {
  public static void main(String[] args) {
    one();
    oneRefused();
    partByWhatIsUnknown();
    partByBumps();
    partByThePebble();
    partBySigns();
    partAndNextRefused();
    nextTakesTheLeast();
    Check.end();
  }

  private static void one() {
    RoomMapper x = Check.ring(0, 1, 0);
    x.start(3);
    Check.due("before any act", x.one(0, 0), 1);
    x.act(0);
    Check.due("another sign", x.one(0, 1), 0);
    x.act(0);
    Check.due("the same sign", x.one(0, 2), 2);
    Check.due("told the other way round", x.one(2, 0), 2);
    x.act(1);
    Check.due("a bump stays", x.one(3, 2), 1);
    x.act(5);
    Check.due("so does the pebble", x.one(4, 2), 1);
    x.act(0);
    Check.due("it isn't there, so it was another place", x.one(0, 2), 0);
    Check.due("and this is the first one", x.one(0, 5), 1);
    for (int i = 0; i <= 5; i++) {
      Check.due("one with itself", x.one(i, i), 1);
    }
    x.start(3);
    Check.due("a start forgets", x.one(0, 1), -1);
  }

  private static void oneRefused() {
    Check.due("one(0, 1) of a new object", new RoomMapper().one(0, 1), -2);
    RoomMapper x = Check.ring(0, 1);
    Check.due("one(0, 0) without a start", x.one(0, 0), -2);
    Check.due("one(1, 0) without a start", x.one(1, 0), -2);
    Check.due("one(0, 1) without a start", x.one(0, 1), -2);
    Check.due("one(-1, 0) without a start", x.one(-1, 0), -2);
    Check.due("one(0, max) without a start", x.one(0, Integer.MAX_VALUE), -2);
    x.start(1);
    Check.due("one(0, 1) of no acts", x.one(0, 1), -1);
    Check.due("one(1, 0) of no acts", x.one(1, 0), -1);
    Check.due("one(0, -1)", x.one(0, -1), -1);
    Check.due("one(-1, 0)", x.one(-1, 0), -1);
    Check.due("one(max, 0)", x.one(Integer.MAX_VALUE, 0), -1);
    x.act(0);
    Check.due("one without sheets", x.one(0, 1), -1);
    Check.due("one without sheets, of too many acts", x.one(0, 2), -1);
    RoomMapper y = spent();
    Check.due("one when spent", y.one(0, 5), -3);
    Check.due("one when spent, of too many acts", y.one(0, 6), -3);
    Check.due("one(6, 0) when spent", y.one(6, 0), -3);
    Check.due("one(0, -1) when spent", y.one(0, -1), -3);
    Check.due("one(min, 0) when spent", y.one(Integer.MIN_VALUE, 0), -3);
    y.start(6);
    Check.due("a start ends that", y.one(0, 0), 1);
    Check.due("and there were not so many", y.one(0, 1), -1);
  }

  private static RoomMapper spent() {
    RoomMapper x = Check.cells(0);
    for (int i = 0; i < 4; i++) {
      x.lead(0, i, 1, 0);
    }
    x.start(6);
    Check.acts(x, "01234");
    return x;
  }

  private static void partByWhatIsUnknown() {
    RoomMapper x = Check.ring(0, 0);
    x.start(2);
    x.act(0);
    Check.due("known on one sheet alone", x.part(1, 0), 2);
    Check.due("unknown on both", x.part(1, 1), 1);
    Check.due("known, then unknown", x.part(2, 1), 2);
    Check.due("the first digit is the first act", x.part(2, 5), 1);
    Check.due("all behind the unknown is unknown", x.part(6, 3125), 1);
    Check.due("six acts", x.part(6, 0), 2);
    Check.due("the shortest that parts", x.next(3), 200);
  }

  private static void partByBumps() {
    RoomMapper x = Check.cells(0, 0);
    x.lead(0, 0, 1, 1);
    x.lead(1, 3, 1, 1);
    x.start(2);
    Check.acts(x, "303");
    Check.due("place 0 or place 1", x.sheets(), 2);
    Check.due("there act 3 bumps or not", x.part(1, 3), 2);
    Check.due("act 2 is unknown on both", x.part(1, 2), 1);
    x.start(3);
    Check.acts(x, "303");
    Check.due("place 0, 1 or 2", x.sheets(), 3);
    Check.due("it bumps, or not, or is unknown", x.part(1, 3), 3);
    Check.due("so that parts the most", x.next(1), 203);
    Check.due("and no longer row is told", x.next(3), 203);
  }

  private static void partByThePebble() {
    RoomMapper x = Check.ring(0, 0);
    x.start(2);
    Check.acts(x, "00");
    Check.due("three sheets", x.sheets(), 3);
    Check.due("they all show the same", x.part(1, 0), 1);
    Check.due("however long", x.part(6, 0), 1);
    x.act(5);
    Check.due("now the pebble is seen or not", x.part(1, 0), 2);
    Check.due("no row parts more, however long", x.next(3), 200);
    Check.due("part changes nothing", x.sheets(), 3);
    Check.due("nor where the walker is", x.sheet(1, 1), 0);
  }

  private static void partBySigns() {
    RoomMapper x = Check.ring(0, 0, 0, 1);
    x.start(4);
    Check.acts(x, "0000");
    Check.due("back to one of three", x.sheets(), 3);
    Check.due("one act", x.part(1, 0), 2);
    Check.due("two acts", x.part(2, 0), 3);
    Check.due("one act, then an unknown one", x.part(2, 1), 2);
    Check.due("an unknown one", x.part(3, 25), 1);
    Check.due("three acts", x.part(3, 1), 3);
    Check.due("next(1)", x.next(1), 200);
    Check.due("next(2)", x.next(2), 400);
    Check.due("next(3)", x.next(3), 400);
  }

  private static void partAndNextRefused() {
    RoomMapper x = Check.ring(0, 1);
    Check.due("part without a start", x.part(1, 0), -2);
    Check.due("part(0, 0) without a start", x.part(0, 0), -1);
    Check.due("next without a start", x.next(1), -2);
    Check.due("next(0) without a start", x.next(0), -1);
    x.start(1);
    int rows = 1;
    for (int n = 1; n <= 6; n++) {
      rows *= 5;
      Check.due("the last row of " + n, x.part(n, rows - 1), 1);
      Check.due("no row of " + n, x.part(n, rows), -1);
      Check.due("nor below 0", x.part(n, -1), -1);
      Check.due("next(" + n + ")", x.next(n), n <= 3 ? 200 : -1);
    }
    Check.due("part(0, 0)", x.part(0, 0), -1);
    Check.due("part(7, 0)", x.part(7, 0), -1);
    Check.due("part(min, 0)", x.part(Integer.MIN_VALUE, 0), -1);
    Check.due("part(max, max)", x.part(Integer.MAX_VALUE, Integer.MAX_VALUE), -1);
    Check.due("next(0)", x.next(0), -1);
    Check.due("next(-1)", x.next(-1), -1);
    x.act(0);
    Check.due("part without sheets", x.part(1, 0), -1);
    Check.due("next without sheets", x.next(1), -1);
    RoomMapper y = spent();
    Check.due("part when spent", y.part(1, 0), -3);
    Check.due("part(1, 5) when spent", y.part(1, 5), -1);
    Check.due("next when spent", y.next(3), -3);
    Check.due("next(4) when spent", y.next(4), -1);
  }

  private static void nextTakesTheLeast() {
    RoomMapper x = Check.cells(0, 0);
    x.lead(0, 2, 1, 1);
    x.lead(1, 2, 1, 0);
    x.start(2);
    Check.acts(x, "132");
    Check.due("two sheets", x.sheets(), 2);
    Check.due("acts 1, 2 and 3 part them", x.part(1, 1) + x.part(1, 2) + x.part(1, 3), 6);
    Check.due("acts 0 and 4 don't", x.part(1, 0) + x.part(1, 4), 2);
    Check.due("the least is told", x.next(3), 201);
  }
}
