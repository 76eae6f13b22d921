/** The boundary cases of the Terms, sentence by sentence: at the boundary, and at the nearest value beyond it. */
public final class EdgeTermsTest {
  public static void main(String[] args) {
    calls();
    numbersOfTheHouse();
    kinds();
    slides();
    turns();
    switchAndPlates();
    pebble();
    toStart();
    places();
    knownActs();
    unknownActs();
    pressAndPebbleOnSheets();
    spent();
    known();
    shown();
    isTrue();
    shelves();
    orderOfRefusals();
    Check.end();
  }

  private static void calls() {
    // 2 + 200 + 1 + 200 + 1 + 106 = 510 calls before the last two.
    Script.play("An object is used for at most 512 calls after it has been made", """
        cell 2 0; start 1; 200x act 3 = 1; start 1 = 0; 200x act 4 = 0; start 1 = 0; 106x act 5
        count 4 = 106; act 3 = 1
        """);
    Script.play("at most 512 calls: the last one may be any", """
        cell 2 0; start 1; 200x act 3; start 1; 200x act 4; start 1; 106x act 5; act 3 = 1; seen 2 = 1
        """);
  }

  private static void numbersOfTheHouse() {
    Script.play("THE HOUSE has CELLS 0 .. 9, as they come", """
        cell 0 0 = 0; cell 1 0 = 1; cell 1 1 = 2; 6x cell 2 0; cell 3 0 = 9; cell 0 0 ! -2; count 0 = 10
        lead 9 0 1 9 = 0; lead 10 0 1 0 ! -1; lead 0 0 1 10 ! -1; lead -1 0 1 0 ! -1; lead 0 0 1 -1 ! -1
        lead 0 0 1 9 = 0; start 2; act 0 = 0; count 1 = 9; seen 0 = 3; act 0 = 0; count 1 = 9
        """);
    for (int sign = 0; sign <= 3; sign++) {
      Script.play("each with a SIGN (0 .. 3)", """
          cell -1 0 ! -1; cell 4 0 ! -1; cell $1 0 = 0; start 1; seen 0 = $1; sign 0 0 = $1
          """, sign);
    }
    Script.play("four LEADS 0 .. 3", """
        cell 0 0; cell 1 0; lead 0 -1 1 1 ! -1; lead 0 4 1 1 ! -1; start 1; 4x act 0 = 1; act 1 = 1; act 2 = 1
        act 3 = 1; lead 0 3 1 0 = 0; act 3 = 0; act 0 = 1; lead 0 0 1 0 = 0; act 0 = 0; act 1 = 1; act 2 = 1
        """);
  }

  private static void kinds() {
    Script.play("LEADS have KINDS: 0 WALL (at first) .. 5 GATE", """
        cell 0 0; cell 0 0; lead 0 0 -1 0 ! -1; lead 0 0 6 0 ! -1; lead 0 0 0 0 = 0; lead 0 0 5 0 = 0
        lead 0 0 5 0 = 5; lead 1 0 4 1 = 0; lead 1 1 4 1 = 0; lead 1 2 4 1 = 0; lead 1 3 4 1 = 0; lead 1 3 0 1 = 4
        """);
    Script.play("1 WAY to a CELL", """
        cell 0 1; cell 1 0; lead 0 2 1 1; start 2; act 2 = 0; count 1 = 1; count 2 = 0; count 3 = 0
        start 2; act 4; act 2 = 0; count 1 = 1; count 3 = 1
        """);
    Script.play("2 DOOR: as WAY, but a WALL while THE SWITCH is off", """
        cell 0 1; cell 1 0; lead 0 0 2 1; start 2; act 0 = 1; count 1 = 0; act 4; act 0 = 0; count 1 = 1; count 3 = 1
        start 2; acts 44; act 0 = 1; count 1 = 0
        """);
    Script.play("5 GATE: as DOOR, and THE SWITCH is off behind it", """
        cell 0 1; cell 1 0; lead 0 0 5 1; lead 1 0 5 0; start 2; act 0 = 1; count 1 = 0; count 3 = 0
        act 4; act 0 = 0; count 1 = 1; count 3 = 0; count 2 = 0; act 0 = 1; count 1 = 1
        """);
    Script.play("5 GATE: to the same CELL it is off, too", """
        cell 0 1; lead 0 0 5 0; start 2; act 4; count 3 = 1; act 0 = 0; count 3 = 0; act 0 = 1
        """);
  }

  private static void slides() {
    String slide = "3 SLIDE: as long as the CELL that it comes to has a SLIDE as the same LEAD, on by that";
    Script.play(slide, """
        cell 0 0; cell 1 0; cell 2 0; cell 3 0; lead 0 1 3 1; lead 1 1 3 2; lead 2 1 1 3; lead 2 0 3 3; lead 2 2 3 3
        start 4; act 1 = 0; count 1 = 2; count 2 = 0; count 3 = 0; act 1 = 0; count 1 = 3
        """);
    Script.play(slide + ": a WAY doesn't go on", """
        cell 0 0; cell 1 0; cell 2 0; lead 0 1 1 1; lead 1 1 3 2; start 3; act 1; count 1 = 1; act 1; count 1 = 2
        """);
    Script.play(slide + ", whatever the TURN", """
        cell 0 0; cell 1 0; cell 2 0; lead 0 0 4 0; lead 0 1 3 1; lead 1 1 3 2; lead 1 0 1 0; start 3
        act 0; count 2 = 1; act 0; count 1 = 2; count 2 = 1
        """);
    String ten = "ten times more at most";
    String rowOfTen = rowOfSlides(10);
    // A row that ends by itself ends behind eight more; every longer slide goes round, and is ended by its number.
    Script.play(ten + ": a row of ten", rowOfTen + "start 1; act 2 = 0; count 1 = 9");
    Script.play(ten + ": nine would end on 0, ten on 1, eleven on 2", rowOfTen + """
        lead 9 2 3 0; start 1; act 2 = 0; count 1 = 1; act 2; count 1 = 2; act 2; count 1 = 3
        """);
    Script.play(ten + ": the last goes back to 5", rowOfTen + "lead 9 2 3 5; start 1; act 2; count 1 = 6");
    Script.play(ten + ": the last goes to itself", rowOfTen + "lead 9 2 3 9; start 1; act 2; count 1 = 9");
    Script.play(ten + ": one CELL", "cell 0 0; lead 0 2 3 0; start 1; act 2 = 0; count 1 = 0; seen 2 = 0");
    Script.play(ten + ": two CELLS", rowOfSlides(2) + "lead 1 2 3 0; start 1; act 2; count 1 = 1; act 2; count 1 = 0");
  }

  /** A row of CELLS, each but the last with a SLIDE as LEAD 2 to the next. */
  private static String rowOfSlides(int cells) {
    StringBuilder b = new StringBuilder();
    for (int i = 0; i < cells; i++) {
      b.append("cell 0 0; ");
    }
    for (int i = 0; i < cells - 1; i++) {
      b.append("lead ").append(i).append(" 2 3 ").append(i + 1).append("; ");
    }
    return b.toString();
  }

  private static void turns() {
    Script.play("4 TURN: the walker is TURNED by one more; TURNED by 0 .. 3", """
        cell 0 0; lead 0 0 4 0; lead 0 1 4 0; lead 0 2 4 0; lead 0 3 4 0; start 1
        count 2 = 0; act 0 = 0; count 2 = 1; act 0; count 2 = 2; act 0; count 2 = 3; act 0; count 2 = 0; act 3
        count 2 = 1
        """);
    for (int turn = 0; turn <= 3; turn++) {
      for (int act = 0; act <= 3; act++) {
        Script.play("its ACT a (0 .. 3) goes by LEAD a and its TURN, modulo 4", """
            5x cell 0 0; lead 0 0 4 0; lead 0 1 4 0; lead 0 2 4 0; lead 0 3 4 0; start 1; $1x act 0; count 2 = $1
            lead 0 0 1 1; lead 0 1 1 2; lead 0 2 1 3; lead 0 3 1 4; act $2 = 0; count 1 = $3; count 2 = $1
            """, turn, act, 1 + (act + turn) % 4);
      }
    }
  }

  private static void switchAndPlates() {
    Script.play("It BUMPS where that is a WALL (or a DOOR, GATE that is shut), and stays", """
        cell 0 1; cell 1 1; lead 0 0 4 0; lead 0 2 2 1; lead 0 3 5 1; start 1; act 0
        act 0 = 1; act 1 = 1; act 2 = 1; count 1 = 0; count 2 = 1; count 3 = 0; act 4; act 0 = 1; count 3 = 1; act 2 = 0
        """);
    Script.play("PRESSED on a PLATE THE SWITCH changes (it is off at first)", """
        cell 0 1; start 1; count 3 = 0; act 4 = 0; count 3 = 1; act 4 = 0; count 3 = 0; act 4; count 3 = 1
        count 1 = 0; count 2 = 0
        """);
    Script.play("else nothing happens", """
        cell 0 0; cell 0 1; lead 0 0 1 1; lead 1 0 1 0; start 1; act 4 = 0; count 3 = 0
        act 0; act 4; count 3 = 1; act 0; act 4; count 3 = 1; count 1 = 0
        """);
    Script.play("whether it BUMPED (of ACTS 0 .. 3)", """
        cell 0 0; start 1; seen 2 = 0; act 3 = 1; seen 2 = 1; act 4 = 0; seen 2 = 0; act 0 = 1; act 5 = 0; seen 2 = 0
        act 1 = 1; walk 0 1 = 1; walk 1 1 = 0; walk 2 1 = 1; walk 3 1 = 0; walk 4 1 = 1
        """);
  }

  private static void pebble() {
    Script.play("It has a PEBBLE at first; drop, if it has it; take, if it lies there; else nothing", """
        cell 0 0; cell 0 0; lead 0 0 1 1; lead 1 0 1 0; start 2; seen 3 = 1; seen 1 = 0; count 5 = -2; act 5 = 0
        seen 3 = 0; seen 1 = 1; count 5 = 0; act 0; seen 1 = 0; act 5 = 0; seen 3 = 0; seen 1 = 0; count 5 = 0; act 0
        seen 1 = 1; act 5; seen 3 = 1; seen 1 = 0; count 5 = -2; act 0; act 5; count 5 = 1; seen 1 = 1; act 5
        count 5 = -2; act 5; count 5 = 1
        """);
    Script.play("a CELL has it or not: one that slides by doesn't take it", rowOfSlides(3) + """
        lead 1 0 1 2; lead 2 0 1 0; lead 0 0 1 1; start 3; act 0; act 5; count 5 = 1; acts 00; act 2; count 1 = 2
        seen 1 = 0; seen 3 = 0; count 5 = 1
        """);
  }

  private static void toStart() {
    Script.play("TO START: CELL 0, TURNED by 0, off, it has the PEBBLE; no ACTS; one SHEET", """
        cell 3 0; cell 3 1; cell 1 0; lead 0 0 4 1; lead 1 3 1 1; start 3; acts 0545
        count 1 = 1; count 2 = 1; count 3 = 1; count 4 = 4; act 5; count 5 = 1; sheets = 2; act 0 = 1; seen 2 = 1
        start 2 = 0
        count 1 = 0; count 2 = 0; count 3 = 0; count 4 = 0; count 5 = -2; seen 0 = 3; seen 1 = 0; seen 2 = 0
        seen 3 = 1
        walk 0 0 ! -1; one 0 1 ! -1; sheets = 1; sheet 0 0 = 1; sheet 0 1 = 0; sheet 0 2 = -2; sheet 0 3 = 0
        sign 0 0 = 3
        leads 0 0 0 = -3; leads 0 0 1 = -3; leads 0 0 2 = -3; leads 0 0 3 = -3; leads 0 0 4 = -3; known = 0
        isTrue 0 = 1
        """);
    Script.play("TO START: CELLS and LEADS stay", """
        cell 0 0; cell 1 0; lead 0 0 1 1; start 2; act 0; start 2; count 0 = 2; act 0 = 0; seen 0 = 1; lead 0 0 1 1 = 1
        """);
  }

  private static void places() {
    // One CELL that leads to itself: behind n ACTS each number p of PLACES up to n was closed in p ways; one is open.
    for (int m = 1; m <= 6; m++) {
      int before = m * (m - 1) / 2 + 1;
      int behind = m * (m + 1) / 2;
      Script.play("A SHEET has PLACES 0 .. M - 1 at most, M = " + m, """
          cell 0 0; lead 0 0 1 0; start $1; $2x act 0; sheets = $3; sheet $4 0 = $1; act 0; sheets = $5; sheet $6 0 = $1
          sheet $6 1 = $2; sign $6 $2 = 0; sign $6 $1 ! -1
          """, m, m - 1, before, before - 1, behind, behind - 1);
    }
    Script.play("M 1 .. 6, told as it starts", """
        cell 0 0; start 0 ! -1; start 7 ! -1; sheets = -2; start 1 = 0; lead 0 0 1 0; act 0; sheets = 1
        start 0 ! -1; start 7 ! -1; start 6 = 0; act 0; sheets = 2; acts 0000; sheets = 16; sheet 15 0 = 6
        """);
    Script.play("numbered as they were come to on it, each with the SIGN seen there", """
        cell 2 0; cell 0 0; cell 3 0; cell 1 0; lead 0 3 1 2; lead 2 0 1 1; lead 1 1 1 3; start 4; acts 301; sheets = 1
        sign 0 0 = 2; sign 0 1 = 3; sign 0 2 = 0; sign 0 3 = 1; leads 0 0 3 = 1; leads 0 1 0 = 2; leads 0 2 1 = 3
        """);
  }

  private static void knownActs() {
    String known = "the ACT is known there: itself, if .. as seen; else none";
    Script.play(known + ": a BUMP that is one", """
        cell 0 0; start 6; act 2; sheets = 1; act 2; sheets = 1; sheet 0 0 = 1; sheet 0 1 = 0; sheet 0 3 = 1
        """);
    Script.play(known + ": a BUMP that is none", "cell 0 0; start 6; act 2; lead 0 2 1 0; act 2 = 0; sheets = 0");
    Script.play(known + ": a PLACE, but it BUMPED", """
        cell 0 0; lead 0 2 1 0; start 1; act 2; sheets = 1; leads 0 0 2 = 0; act 2; sheets = 1; lead 0 2 0 0
        act 2 = 1; sheets = 0
        """);
    String twoCells = "cell 0 0; cell 1 0; cell 2 0; lead 0 0 1 1; lead 1 0 1 0; ";
    Script.play(known + ": a PLACE with that SIGN", twoCells + "start 2; acts 00; sheets = 1; act 0; sheets = 1; "
        + "sheet 0 1 = 1; sheet 0 3 = 2");
    Script.play(known + ": a PLACE with another SIGN", twoCells + "start 4; acts 00; sheets = 2; lead 0 0 1 2; act 0; "
        + "sheets = 1; sheet 0 0 = 4");
    String pebble = "cell 0 0; cell 0 0; lead 0 0 1 1; lead 1 0 1 0; start 2; ";
    Script.play(known + ": the PEBBLE lies there as seen", pebble + """
        acts 500; sheets = 1; acts 00; sheets = 1; act 5; acts 00; sheets = 1; sheet 0 2 = -2; sheet 0 1 = 0
        """);
    Script.play(known + ": it lies there, and wasn't seen", pebble + "acts 500; lead 0 0 1 0; act 0; sheets = 0");
    Script.play(known + ": it was seen, and doesn't lie there", pebble + """
        acts 500; act 0; seen 1 = 0; lead 1 0 1 1; act 0; sheets = 0
        """);
  }

  private static void unknownActs() {
    Script.play("It is unknown: it BUMPED: that is known now", """
        cell 0 0; start 6; leads 0 0 1 = -3; act 1 = 1; sheets = 1; leads 0 0 1 = -2; sheet 0 0 = 1; sheet 0 1 = 0
        """);
    Script.play("Else it leads to each PLACE 0, 1, .. that has that SIGN; then to a new PLACE", """
        cell 0 0; cell 1 0; cell 0 0; lead 0 0 1 1; lead 1 0 1 2; lead 2 0 1 0; start 4; acts 00; sheets = 2; act 0
        sheets = 3; leads 0 2 0 = 0; leads 1 2 0 = 2; leads 2 2 0 = 3; sheet 0 1 = 0; sheet 1 1 = 2; sheet 2 1 = 3
        sheet 0 0 = 3; sheet 1 0 = 3; sheet 2 0 = 4; sign 2 3 = 0
        """);
    Script.play("if there are fewer than M", """
        cell 0 0; cell 1 0; lead 0 0 1 1; start 1; act 0; sheets = 0; start 2; act 0; sheets = 1
        """);
    Script.play("(and the PEBBLE as seen); (and the PEBBLE wasn't seen)", """
        cell 0 0; cell 0 0; lead 0 0 1 0; lead 0 1 1 1; start 6; act 5; act 0; sheets = 1; leads 0 0 0 = 0
        sheet 0 0 = 1; act 1; sheets = 1; leads 0 0 1 = 1; sheet 0 0 = 2; lead 1 2 1 1; act 2; sheets = 2
        leads 0 1 2 = 1; leads 1 1 2 = 2; start 6; act 0; sheets = 2; leads 0 0 0 = 0; leads 1 0 0 = 1
        """);
  }

  private static void pressAndPebbleOnSheets() {
    Script.play("ACT 4 leads from the PLACE to one likewise", """
        cell 1 1; start 2; act 4; sheets = 2; leads 0 0 4 = 0; leads 1 0 4 = 1; sheet 0 1 = 0; sheet 1 1 = 1
        sheet 1 0 = 2; act 4; sheets = 3; leads 0 0 4 = 0; leads 1 1 4 = 0; leads 2 1 4 = 1; start 1; act 4
        sheets = 1; leads 0 0 4 = 0; start 6; acts 54; sheets = 1; leads 0 0 4 = 0
        """);
    Script.play("ACT 5 changes nothing but where the PEBBLE is (on all SHEETS, as it was done)", """
        cell 0 0; cell 0 0; lead 0 0 1 1; lead 1 0 1 1; start 2; act 0; sheets = 2; sheet 0 2 = -2; sheet 1 2 = -2
        act 5; sheets = 2; sheet 0 2 = 0; sheet 1 2 = 1; sheet 0 1 = 0; sheet 1 1 = 1; sheet 0 3 = 1; sheet 1 3 = 1
        act 5; sheets = 2; sheet 0 2 = -2; sheet 1 2 = -2; act 5; lead 1 1 1 0; act 1; sheets = 2
        act 5; sheets = 2; sheet 0 2 = 0; sheet 0 1 = 1; sheet 1 2 = 1; sheet 1 1 = 0; sheet 0 3 = 2; sheet 1 3 = 2
        """);
  }

  private static void spent() {
    String spent = "More than 150 SHEETS: SPENT: there are none any more till the next start (nor anything told ..)";
    // These walks were found by a search; Model without a limit counts 149, 150 and 151 SHEETS, too.
    Script.play(spent + ": 149", """
        cell 0 0; cell 0 0; lead 0 1 1 0; lead 0 2 1 1; start 5; acts 1114214; sheets = 149; sheet 148 1 = 4
        """);
    Script.play(spent + ": 150", """
        cell 0 0; lead 0 2 1 0; start 5; acts 424425254; sheets = 150; known = 0; one 0 0 = 1; sheet 149 0 = 5
        sheet 150 0 ! -1; leads 149 0 0 = -3; leads 150 0 0 ! -1; sign 149 4 = 0; sign 150 0 ! -1
        go 149 0 = -2; go 150 0 ! -1; isTrue 149 = 1; isTrue 150 ! -1; keep 0 4 149 = 0; keep 0 4 150 ! -1
        part 1 0 = 1; part 1 1 = 1; part 1 2 = 2; next 1 = 202; act 1 = 1; sheets = 150; act 5; sheets = 150
        """);
    String of151 = "cell 0 0; cell 0 0; lead 0 2 1 1; lead 0 1 1 0; start 6; acts 41445024; ";
    Script.play(spent + ": 151", of151 + """
        sheets ! -3; known ! -3; one 0 0 ! -3; one 0 9 ! -3; part 1 0 ! -3; part 6 15624 ! -3; next 1 ! -3; next 3 ! -3
        sheet 0 0 ! -1; leads 0 0 0 ! -1; sign 0 0 ! -1; go 0 0 ! -1; isTrue 0 ! -1; keep 0 4 0 ! -1
        count 4 = 8; seen 0 = 0; walk 7 0 = 4; keep 0 3 0 = 0; element 0 7 = 4; fits = 1; reached = 1
        """);
    Script.play(spent + ": till the next start", of151 + """
        act 0 = 1; act 5; act 4 = 0; sheets = -3; start 0 ! -1; start 7 ! -1; sheets = -3; start 1 = 0; sheets = 1
        known = 0; one 0 0 = 1; part 1 0 = 1; next 1 = 200; sheet 0 0 = 1; go 0 0 = 0; isTrue 0 = 1; acts 01
        sheets = 1
        """);
    Script.play(spent + ": 52, then 203 at once", """
        cell 0 0; lead 0 0 1 0; lead 0 1 1 0; lead 0 2 1 0; lead 0 3 1 0; start 6; act 0; sheets = 2; act 1; sheets = 5
        act 2; sheets = 15; act 3; sheets = 52; act 4; sheets = -3
        """);
  }

  private static void known() {
    String known = "KNOWN: there is one SHEET, and on it no ACT of any PLACE that can be come to is unknown";
    Script.play(known, """
        cell 0 0; start 1; acts 0123; known = 0; act 4; known = 1; start 1; acts 4321; known = 0; act 0; known = 1
        """);
    Script.play(known + ": two SHEETS", "cell 0 0; start 2; acts 01234; sheets = 2; known = 0");
    Script.play(known + ": no SHEET", "cell 0 0; cell 1 0; lead 0 0 1 1; start 1; act 0; sheets = 0; known = 0");
    Script.play(known + ": PLACE 0 can't be come to", """
        cell 0 0; cell 1 0; lead 0 0 1 1; start 2; act 0; acts 0123; known = 0; act 4; sheets = 1; known = 1
        leads 0 0 1 = -3
        """);
    Script.play(known + ": it can", """
        cell 0 0; cell 1 0; lead 0 0 1 1; lead 1 3 1 0; start 2; acts 001243; sheets = 1; known = 0; acts 123; known = 0
        act 0; known = 0; acts 34; known = 1; act 0; known = 1
        """);
  }

  private static void shown() {
    String shown = "SHOWN: up to the first that is unknown there (this and all behind it are unknown)";
    Script.play(shown, Scenes.TWO_SHEETS + """
        part 1 0 = 2; part 1 1 = 1; part 2 0 = 2; part 2 1 = 2; part 2 5 = 1; part 6 0 = 2; part 6 3125 = 1
        part 6 15624 = 1
        """);
    Script.play("A row PARTS SHEETS into as many sets as there are unlike rows", Scenes.TWO_SHEETS + """
        act 1; part 1 0 = 2; part 1 1 = 1; part 2 5 = 2; part 2 6 = 1; part 2 7 = 1
        """);
    Script.play("what is seen is never as what is unknown: BUMP, SIGN 3, PEBBLE", """
        cell 3 0; lead 0 0 1 0; start 2; acts 105; sheets = 2; leads 0 0 1 = -2; leads 1 1 1 = -3; part 1 1 = 2
        """);
    Script.play("what is seen is never as what is unknown: no BUMP, SIGN 0, no PEBBLE", Scenes.TWO_SHEETS + """
        part 1 0 = 2
        """);
    Script.play("A row PARTS SHEETS: one SHEET", "cell 0 0; start 1; part 1 0 = 1; part 6 15624 = 1; next 3 = 200");
    Script.play("what would be seen (BUMP or not)", """
        cell 0 0; cell 0 0; lead 0 0 1 1; lead 1 3 1 1; start 2; acts 303; sheets = 2; part 1 3 = 2
        """);
    Script.play("what would be seen (SIGN)", """
        cell 0 0; cell 0 0; cell 1 0; lead 0 0 1 1; lead 1 0 1 2; lead 2 0 1 1; start 3; acts 000; sheets = 2
        part 1 0 = 2
        """);
    Script.play("what would be seen (PEBBLE)", """
        cell 0 0; cell 0 0; lead 0 0 1 1; lead 1 0 1 0; start 2; acts 00; sheets = 3; part 1 0 = 1; act 5; part 1 0 = 2
        """);
  }

  private static void isTrue() {
    String isTrue = "TRUE: followed by all rows of ACTS that are known, SIGNS and BUMPS are alike";
    Script.play(isTrue, """
        cell 0 0; cell 0 0; cell 1 0; lead 0 0 1 1; lead 1 0 1 2; lead 2 0 1 0; start 3; isTrue 0 = 1
        act 0; isTrue 0 = 0; isTrue 1 = 1; act 0; sheets = 1; isTrue 0 = 1; act 0; sheets = 2; isTrue 0 = 1
        isTrue 1 = 0
        """);
    Script.play(isTrue + ": all that is known, not the walker's PLACE alone", """
        cell 0 0; cell 1 0; lead 0 0 1 1; lead 1 0 1 0; start 2; acts 1001; isTrue 0 = 1; acts 0; isTrue 0 = 1
        lead 0 1 1 0; isTrue 0 = 0; lead 0 1 0 0; isTrue 0 = 1; lead 0 0 1 0; isTrue 0 = 0; lead 0 0 0 0; isTrue 0 = 0
        """);
    Script.play("from where THE WALKER is (with its TURN)", """
        cell 0 0; lead 0 0 4 0; start 1; act 0; isTrue 0 = 0; lead 0 1 1 0; isTrue 0 = 1
        lead 0 1 4 0; isTrue 0 = 0; lead 0 2 4 0; isTrue 0 = 0; lead 0 3 4 0; isTrue 0 = 1
        """);
    Script.play("(THE SWITCH)", """
        cell 0 1; lead 0 0 2 0; start 1; act 0; isTrue 0 = 1; act 4; isTrue 0 = 0; act 4; isTrue 0 = 0
        start 2; act 0; act 4; isTrue 1 = 1; act 4; leads 1 1 4 = 0; isTrue 1 = 1
        """);
    Script.play("(the PEBBLE left out)", """
        cell 0 0; cell 0 0; lead 0 0 1 1; lead 1 0 1 0; start 2; act 0; isTrue 0 = 1; act 5; isTrue 0 = 1; isTrue 1 = 1
        """);
  }

  private static void shelves() {
    for (int d = 0; d <= 7; d++) {
      Script.play("SHELVES 0 .. 7 each hold nothing (at first)", """
          cell 0 0; lead 0 0 1 0; weight $1 ! -11; toss $1 ! -11; element $1 0 ! ISE; make $1 3 1 = 0; element $1 0 = 0
          element $1 1 ! ISE; make $1 4 1 = 0; element $1 0 = 0; keep $1 1 0 = 0; weight $1 = 10; toss $1 = 0
          keep $1 0 0 = 0; weight $1 ! -11
          """, d);
    }
    for (int d : new int[] {-1, 8}) {
      Script.play("SHELVES 0 .. 7", """
          cell 0 0; start 1; weight $1 ! -1; toss $1 ! -1; element $1 0 ! IAE; make $1 3 1 ! -1; keep $1 0 0 ! -1
          keep $1 1 0 ! -1; keep $1 3 0 ! -1; keep $1 4 0 ! -1; copy $1 0 0 0 0 ! -1; copy 0 0 $1 0 0 ! -1
          """, d);
    }
    Script.play("a LEAD (as it is then)", """
        cell 0 0; cell 0 0; lead 0 0 1 1; keep 0 1 0; lead 0 0 4 0; weight 0 = 11; toss 0 = 1; keep 1 1 0
        weight 1 = 2010; lead 0 0 0 0; weight 1 = 2010; toss 1 = 0; keep 2 1 0; lead 0 0 1 1; weight 2 = 1
        toss 2 ! -15
        """);
  }

  private static void orderOfRefusals() {
    String first = "Answers of several refusals are the first one here";
    Script.play(first + ": -1, then -2", """
        start 0 ! -1; start 7 ! -1; start 1 ! -2; act 6 ! -1; act 5 ! -2; seen 4 ! -1; seen 3 ! -2; count 6 ! -1
        count 5 ! -2; part 0 0 ! -1; part 7 0 ! -1; part 1 5 ! -1; part 1 4 ! -2; next 0 ! -1; next 4 ! -1
        next 3 ! -2; 10x cell 0 0; cell 4 0 ! -1; cell -1 0 ! -1; cell 3 0 ! -2
        """);
    Script.play(first + ": -1, then -3", """
        cell 0 0; lead 0 0 1 0; lead 0 1 1 0; lead 0 2 1 0; lead 0 3 1 0; start 6; acts 01234; 195x act 4; act 6 ! -1
        act -1 ! -1; act 5 ! -3; part 0 0 ! -1; part 7 0 ! -1; part 1 5 ! -1; part 1 4 ! -3; next 0 ! -1; next 4 ! -1
        next 3 ! -3
        """);
    Script.play(first + ": -1, -11, -12, -13, -14, -15", """
        cell 0 0; keep 1 1 0; make 2 3 2; make 3 4 2; copy 8 0 0 0 -1 ! -1; copy 0 0 8 0 -1 ! -1; copy 0 0 1 0 -1 ! -11
        copy 1 0 0 0 -1 ! -11; copy 1 0 2 0 -1 ! -12; copy 2 0 1 0 -1 ! -12; copy 2 0 3 0 3 ! -12; copy 2 0 2 0 3 ! -13
        make 8 3 -1 ! -1; make 0 2 -1 ! -1; make 0 5 -1 ! -1; make 0 3 -1 ! -14
        toss 8 ! -1; toss 0 ! -11; toss 2 ! -12; toss 1 ! -15; element 8 -1 ! IAE; element 0 -1 ! ISE
        """);
  }
}
