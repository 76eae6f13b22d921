/** Promises 8 to 12: the SHEETS, what stands on them, and KNOWN. */
public final class SheetTest {
  public static void main(String[] args) {
    guessesInTheirOrder();
    bumps();
    thePebbleParts();
    pressing();
    fewPlaces();
    noSheets();
    spent();
    justNotSpent();
    wrongNumbers();
    known();
    Check.end();
  }

  private static void sheetIs(RoomMapper x, int k, int places, int walker, int pebble, int known) {
    int[] due = {places, walker, pebble, known};
    for (int what = 0; what < 4; what++) {
      Check.due("sheet(" + k + ", " + what + ")", x.sheet(k, what), due[what]);
    }
  }

  private static void guessesInTheirOrder() {
    RoomMapper x = Check.ring(2, 2, 2);
    x.start(3);
    sheetIs(x, 0, 1, 0, -2, 0);
    x.act(0);
    Check.due("to place 0, to a new one", x.sheets(), 2);
    sheetIs(x, 0, 1, 0, -2, 1);
    sheetIs(x, 1, 2, 1, -2, 1);
    Check.due("the guess to stay", x.leads(0, 0, 0), 0);
    Check.due("the guess of a new place", x.leads(1, 0, 0), 1);
    Check.due("its sign", x.sign(1, 1), 2);
    Check.due("what is unknown", x.leads(1, 1, 0), -3);
    x.act(0);
    Check.due("the second sheet becomes three", x.sheets(), 4);
    sheetIs(x, 0, 1, 0, -2, 1);
    sheetIs(x, 1, 2, 0, -2, 2);
    sheetIs(x, 2, 2, 1, -2, 2);
    sheetIs(x, 3, 3, 2, -2, 2);
    x.act(0);
    Check.due("three places are the most", x.sheets(), 6);
    int[] walkers = {0, 1, 1, 0, 1, 2};
    for (int k = 0; k < 6; k++) {
      Check.due("the walker on sheet " + k, x.sheet(k, 1), walkers[k]);
    }
    for (int k = 3; k < 6; k++) {
      Check.due("the third place leads on sheet " + k, x.leads(k, 2, 0), k - 3);
    }
    x.start(3);
    Check.due("a start makes one of them", x.sheets(), 1);
    sheetIs(x, 0, 1, 0, -2, 0);
    Check.due("of which nothing is known", x.leads(0, 0, 0), -3);
  }

  private static void bumps() {
    RoomMapper x = Check.ring(0, 1);
    x.start(6);
    x.act(3);
    Check.due("a bump makes no sheets", x.sheets(), 1);
    Check.due("a bump is known", x.leads(0, 0, 3), -2);
    sheetIs(x, 0, 1, 0, -2, 1);
    x.act(3);
    sheetIs(x, 0, 1, 0, -2, 1);
    x.act(0);
    sheetIs(x, 0, 2, 1, -2, 2);
    Check.due("another sign is another place", x.sign(0, 1), 1);
    x.act(0);
    Check.due("back, or to a third place", x.sheets(), 2);
    x.act(3);
    Check.due("a bump in both", x.sheets(), 2);
    sheetIs(x, 0, 2, 0, -2, 3);
    sheetIs(x, 1, 3, 2, -2, 4);
    x.lead(0, 3, 1, 0);
    x.act(3);
    Check.due("a known bump that was none", x.sheets(), 0);
    x.start(6);
    x.act(3);
    x.lead(0, 3, 0, 0);
    x.act(3);
    Check.due("a known way that bumps, a new place that bumps", x.sheets(), 1);
    Check.due("the new place alone is left", x.sheet(0, 0), 2);
  }

  private static void thePebbleParts() {
    RoomMapper x = Check.ring(1, 1);
    x.start(6);
    x.act(5);
    sheetIs(x, 0, 1, 0, 0, 0);
    x.act(0);
    Check.due("not the place with the pebble", x.sheets(), 1);
    sheetIs(x, 0, 2, 1, 0, 1);
    x.act(5);
    sheetIs(x, 0, 2, 1, 0, 1);
    x.act(0);
    Check.due("no place but that with the pebble", x.sheets(), 1);
    sheetIs(x, 0, 2, 0, 0, 2);
    x.act(5);
    sheetIs(x, 0, 2, 0, -2, 2);
    Check.due("act 5 leads nowhere", x.leads(0, 0, 5), -1);
    x.start(2);
    Check.acts(x, "05");
    Check.due("dropped on both sheets", x.sheets(), 2);
    sheetIs(x, 0, 1, 0, 0, 1);
    sheetIs(x, 1, 2, 1, 1, 1);
    x.act(0);
    Check.due("a known way to the pebble that isn't there", x.sheets(), 1);
    sheetIs(x, 0, 2, 0, 1, 2);
    x.act(0);
    Check.due("a known way with the pebble as seen", x.sheets(), 1);
    x.lead(1, 0, 1, 1);
    x.act(0);
    Check.due("a known way without the pebble that is there", x.sheets(), 0);
  }

  private static void pressing() {
    RoomMapper x = new RoomMapper();
    x.cell(0, true);
    x.start(2);
    x.act(4);
    Check.due("pressing leads to a place or a new one", x.sheets(), 2);
    Check.due("it stays", x.leads(0, 0, 4), 0);
    Check.due("it goes", x.leads(1, 0, 4), 1);
    Check.due("the walker, too", x.sheet(1, 1), 1);
    x.act(4);
    Check.due("and on", x.sheets(), 3);
    Check.due("and back", x.leads(1, 1, 4), 0);
    x.start(2);
    Check.acts(x, "54");
    Check.due("pressing beside the pebble", x.sheets(), 1);
    Check.due("stays there", x.leads(0, 0, 4), 0);
  }

  private static void fewPlaces() {
    RoomMapper x = Check.ring(0, 1, 2, 3);
    for (int m = 1; m <= 6; m++) {
      x.start(m);
      x.act(0);
      Check.due("one more place of " + m, x.sheets(), m >= 2 ? 1 : 0);
      x.act(0);
      Check.due("two more places of " + m, x.sheets(), m >= 3 ? 1 : 0);
      x.act(0);
      Check.due("three more places of " + m, x.sheets(), m >= 4 ? 1 : 0);
      x.act(0);
      Check.due("and the first again of " + m, x.sheets(), m >= 5 ? 2 : m >= 4 ? 1 : 0);
    }
  }

  private static void noSheets() {
    RoomMapper x = Check.ring(0, 1);
    x.start(1);
    x.act(0);
    Check.due("sheets() of none", x.sheets(), 0);
    Check.due("known() of none", x.known(), 0);
    Check.due("sheet(0, 0) of none", x.sheet(0, 0), -1);
    Check.due("leads of none", x.leads(0, 0, 0), -1);
    Check.due("sign of none", x.sign(0, 0), -1);
    Check.due("the walk goes on", x.act(0), 0);
    Check.due("and none comes back", x.sheets(), 0);
    x.start(1);
    Check.due("but by a start", x.sheets(), 1);
  }

  private static RoomMapper loops(int cells) {
    RoomMapper x = new RoomMapper();
    for (int i = 0; i < cells; i++) {
      x.cell(i, false);
    }
    for (int i = 0; i < cells; i++) {
      x.lead(i, 0, 1, (i + 1) % cells);
      x.lead(i, 1, 1, (i + 1) % cells);
      x.lead(i, 2, 1, i);
    }
    return x;
  }

  private static void spent() {
    RoomMapper x = loops(1);
    x.start(4);
    Check.acts(x, "2410");
    Check.due("not yet spent", x.sheets(), 51);
    x.act(0);
    Check.due("151 sheets are too many", x.sheets(), -3);
    Check.due("known() when spent", x.known(), -3);
    Check.due("sheet when spent", x.sheet(0, 0), -1);
    Check.due("leads when spent", x.leads(0, 0, 0), -1);
    Check.due("sign when spent", x.sign(0, 0), -1);
    Check.due("the walk goes on", x.act(3), 1);
    Check.due("the pebble, too", x.act(5), 0);
    Check.due("and is kept", x.walk(5, 0), 3);
    Check.due("still spent", x.sheets(), -3);
    x.start(1);
    Check.due("till the start", x.sheets(), 1);
    x.start(4);
    Check.acts(x, "32410");
    Check.due("not yet spent, with one act more", x.sheets(), 51);
    x.act(0);
    Check.due("spent with one act more", x.sheets(), -3);
    RoomMapper y = loops(1);
    y.lead(0, 3, 1, 0);
    y.start(6);
    int[] bell = {2, 5, 15, 52, -3};
    for (int a = 0; a < 5; a++) {
      y.act(a);
      Check.due("sheets behind " + (a + 1) + " acts", y.sheets(), bell[a]);
    }
  }

  private static void justNotSpent() {
    RoomMapper x = loops(2);
    x.start(5);
    Check.acts(x, "10421042");
    Check.due("150 sheets are not too many", x.sheets(), 150);
    Check.due("the last of them", x.sheet(149, 0) > 0 ? 1 : 0, 1);
    Check.due("none behind it", x.sheet(150, 0), -1);
    Check.due("the last one's first sign", x.sign(149, 0), 0);
    Check.due("part of 150", x.part(1, 4) >= 1 ? 1 : 0, 1);
  }

  private static void wrongNumbers() {
    RoomMapper x = Check.ring(3, 1);
    Check.due("sheets() without a start", x.sheets(), -2);
    Check.due("known() without a start", x.known(), -2);
    Check.due("sheet without a start", x.sheet(0, 0), -1);
    Check.due("leads without a start", x.leads(0, 0, 0), -1);
    Check.due("sign without a start", x.sign(0, 0), -1);
    x.start(2);
    x.act(0);
    Check.due("sign(0, 0)", x.sign(0, 0), 3);
    Check.due("sign(0, 1)", x.sign(0, 1), 1);
    for (int bad : new int[] {-1, 1, 2, 150, 151, Integer.MIN_VALUE, Integer.MAX_VALUE}) {
      Check.due("no such sheet: sheet", x.sheet(bad, 0), -1);
      Check.due("no such sheet: leads", x.leads(bad, 0, 0), -1);
      Check.due("no such sheet: sign", x.sign(bad, 0), -1);
    }
    for (int bad : new int[] {-1, 2, 5, 6, Integer.MIN_VALUE, Integer.MAX_VALUE}) {
      Check.due("no such place: leads", x.leads(0, bad, 0), -1);
      Check.due("no such place: sign", x.sign(0, bad), -1);
    }
    for (int bad : new int[] {-1, 5, Integer.MIN_VALUE, Integer.MAX_VALUE}) {
      Check.due("no such act: leads", x.leads(0, 0, bad), -1);
      Check.due("no such thing: sheet", x.sheet(0, bad), -1);
    }
    Check.due("no such thing: sheet(0, 4)", x.sheet(0, 4), -1);
    for (int a = 1; a < 5; a++) {
      Check.due("unknown", x.leads(0, 0, a), -3);
    }
  }

  private static void known() {
    RoomMapper x = Check.cells(0);
    x.start(1);
    for (int a = 0; a < 5; a++) {
      Check.due("not yet known", x.known(), 0);
      x.act(a);
    }
    Check.due("known", x.known(), 1);
    Check.due("how many acts", x.sheet(0, 3), 5);
    x.start(2);
    Check.acts(x, "01234");
    Check.due("two sheets", x.sheets(), 2);
    Check.due("are not known", x.known(), 0);
    RoomMapper y = Check.cells(0, 1);
    y.lead(0, 2, 1, 1);
    y.start(2);
    Check.acts(y, "20123");
    Check.due("the press is unknown", y.known(), 0);
    y.act(4);
    Check.due("what can't be come to needs not be known", y.known(), 1);
    y.lead(1, 3, 1, 0);
    y.start(2);
    Check.acts(y, "20124");
    Check.due("one act of the walker's place is unknown", y.known(), 0);
    Check.acts(y, "32");
    Check.due("what can be come to needs", y.known(), 0);
    Check.acts(y, "3134");
    Check.due("one sheet", y.sheets(), 1);
    Check.due("but for act 0", y.known(), 0);
    Check.due("what the house has", y.reached(), 2);
    Check.due("doesn't change that", y.known(), 0);
    Check.acts(y, "2");
    Check.due("but for act 0 of the other place", y.known(), 0);
    Check.acts(y, "30");
    Check.due("and now it is", y.known(), 1);
    Check.acts(y, "2");
    Check.due("from the other place, too", y.known(), 1);
  }
}
