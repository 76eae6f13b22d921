/** The boundary cases of promises 8 to 15, sentence by sentence. */
public final class EdgeSheetTest {
  /** No SHEET: one PLACE is too few for two SIGNS. */
  private static final String NONE = Scenes.TWO_CELLS + "start 1; act 0; ";

  public static void main(String[] args) {
    sheets();
    sheet();
    leads();
    sign();
    known();
    one();
    part();
    next();
    nextOfSeveral();
    Check.end();
  }

  private static void sheets() {
    Script.play("Promise 8: -2: there was no start", """
        sheets ! -2; cell 0 0; sheets ! -2; start 0 ! -1; sheets ! -2; start 1; sheets = 1
        """);
    Script.play("Promise 8: -3: SPENT", Scenes.LOOPS_SPENT + "sheets ! -3; act 0; sheets ! -3; start 1; sheets = 1");
    Script.play("Promise 8: none, and not SPENT", NONE + """
        sheets = 0; act 0 = 0; sheets = 0; acts 4512; sheets = 0; start 1; sheets = 1
        """);
  }

  private static void sheet() {
    Script.play("Promise 9: -1: no such SHEET", """
        sheet 0 0 ! -1; cell 0 0; sheet 0 0 ! -1; start 2; sheet -1 0 ! -1; sheet 0 0 = 1; sheet 1 0 ! -1
        sheet min 0 ! -1; sheet max 0 ! -1
        """);
    Script.play("Promise 9: Of SHEET k: 0 .. 3", Scenes.TWO_SHEETS + """
        sheet 0 -1 ! -1; sheet 0 0 = 1; sheet 0 1 = 0; sheet 0 2 = -2; sheet 0 3 = 1; sheet 0 4 ! -1; sheet 0 max ! -1
        sheet 1 -1 ! -1; sheet 1 0 = 2; sheet 1 1 = 1; sheet 1 2 = -2; sheet 1 3 = 1; sheet 1 4 ! -1; sheet 2 0 ! -1
        """);
    Script.play("Promise 9: of the PEBBLE (-2: it is with the walker)", """
        cell 0 0; cell 1 0; lead 0 0 1 1; start 2; sheet 0 2 = -2; act 5; sheet 0 2 = 0; act 5; sheet 0 2 = -2
        act 0; act 5; sheet 0 2 = 1
        """);
    Script.play("Promise 9: how many ACTS are known: none to all", """
        cell 0 0; start 1; sheet 0 3 = 0; act 0; sheet 0 3 = 1; acts 1235; sheet 0 3 = 4; act 4; sheet 0 3 = 5
        acts 012345; sheet 0 3 = 5
        """);
    Script.play("Promise 9: how many ACTS are known: of all PLACES", """
        cell 0 0; cell 1 0; lead 0 0 1 1; lead 1 0 1 0; start 2; acts 123401234; sheets = 1; sheet 0 0 = 2
        sheet 0 3 = 9; act 0; sheet 0 3 = 10
        """);
    Script.play("Promise 9: none; SPENT", NONE + "sheet 0 0 ! -1");
    Script.play("Promise 9: none; SPENT", Scenes.LOOPS_SPENT + "sheet 0 0 ! -1");
  }

  private static void leads() {
    Script.play("Promise 10: -1: no such SHEET, PLACE, ACT", "leads 0 0 0 ! -1; " + Scenes.TWO_SHEETS + """
        leads -1 0 0 ! -1; leads 0 0 0 = 0; leads 1 0 0 = 1; leads 2 0 0 ! -1; leads 0 -1 0 ! -1; leads 0 1 0 ! -1
        leads 1 1 0 = -3; leads 1 2 0 ! -1; leads 1 0 -1 ! -1; leads 1 0 4 = -3; leads 1 0 5 ! -1; leads min 0 0 ! -1
        leads 0 max 0 ! -1; leads 0 0 min ! -1
        """);
    Script.play("Promise 10: a PLACE; -2 a BUMP; -3 unknown", """
        cell 0 0; lead 0 3 1 0; start 1; leads 0 0 0 = -3; act 0; leads 0 0 0 = -2; leads 0 0 3 = -3; act 3
        leads 0 0 3 = 0; leads 0 0 4 = -3; act 4; leads 0 0 4 = 0; leads 0 0 1 = -3; leads 0 0 2 = -3
        """);
    Script.play("Promise 10: none; SPENT", NONE + "leads 0 0 0 ! -1");
    Script.play("Promise 10: none; SPENT", Scenes.LOOPS_SPENT + "leads 0 0 0 ! -1");
  }

  private static void sign() {
    Script.play("Promise 11: -1", "sign 0 0 ! -1; " + Scenes.TWO_SHEETS + """
        sign -1 0 ! -1; sign 0 0 = 0; sign 1 0 = 0; sign 2 0 ! -1; sign 0 -1 ! -1; sign 0 1 ! -1; sign 1 1 = 0
        sign 1 2 ! -1; sign max 0 ! -1; sign 0 min ! -1
        """);
    Script.play("Promise 11: none; SPENT", NONE + "sign 0 0 ! -1");
    Script.play("Promise 11: none; SPENT", Scenes.LOOPS_SPENT + "sign 0 0 ! -1");
  }

  private static void known() {
    Script.play("Promise 12: -2", "known ! -2; cell 0 0; known ! -2; start 1; known = 0");
    Script.play("Promise 12: -3", Scenes.LOOPS_SPENT + "known ! -3; start 1; known = 0");
    Script.play("Promise 12: there is one SHEET", NONE + "known = 0");
    Script.play("Promise 12: 1: KNOWN, whatever was asked before", """
        cell 0 0; lead 0 0 4 0; lead 0 1 4 0; lead 0 2 4 0; lead 0 3 4 0; start 1; acts 01234; reached = 4; known = 1
        isTrue 0 = 1; known = 1; go 0 0 = 0; known = 1; reached = 4; isTrue 0 = 1; reached = 4
        """);
    Script.play("Promise 12: 1: KNOWN, else 0", """
        cell 0 0; start 1; acts 0124; known = 0; act 3; known = 1; act 5; known = 1; start 1; known = 0
        """);
  }

  private static void one() {
    Script.play("Promise 13: 1 on all SHEETS, 0 on none, 2 on some", """
        cell 0 0; cell 1 0; cell 0 0; lead 0 0 1 1; lead 1 0 1 2; lead 2 0 1 0; start 3; one 0 0 = 1; act 0
        one 0 1 = 0; one 1 0 = 0; one 1 1 = 1; act 0; sheets = 2; one 0 2 = 2; one 2 0 = 2; one 1 2 = 0; one 2 2 = 1
        act 3; one 2 3 = 1; one 0 3 = 2; act 5; one 3 4 = 1; act 0; sheets = 1; one 0 5 = 1; one 0 2 = 0; one 4 5 = 0
        """);
    Script.play("Promise 13: 2 on some: on one of two", Scenes.TWO_SHEETS + "one 0 1 = 2");
    Script.play("Promise 13: 2 on some: on one of four, on three of six", """
        cell 0 0; lead 0 0 1 0; start 3; acts 00; sheets = 4; one 0 1 = 2; one 0 2 = 2; one 1 2 = 2; act 0; sheets = 6
        one 0 3 = 2; one 1 3 = 2; one 2 3 = 2
        """);
    Script.play("Promise 13: ACT 5 goes nowhere, whatever is known", """
        cell 0 0; cell 1 0; lead 0 0 1 1; lead 1 0 1 1; start 2; acts 500; one 0 1 = 1; one 1 2 = 0; one 2 3 = 1
        act 5; one 3 4 = 1
        """);
    Script.play("Promise 13: -1: there were not so many", """
        cell 0 0; start 1; one 0 0 = 1; one 0 1 ! -1; one 1 0 ! -1; act 0; one 0 1 = 1; one 1 0 = 1; one 0 2 ! -1
        one 2 0 ! -1; one 2 2 ! -1; one -1 0 ! -1; one 0 -1 ! -1; one -1 -1 ! -1; one max 0 ! -1; one 0 min ! -1
        start 1; one 0 1 ! -1
        """);
    Script.play("Promise 13: of a full walk", """
        cell 0 0; start 1; 199x act 0; one 199 0 = 1; one 200 0 ! -1; act 0; one 0 200 = 1; one 0 201 ! -1
        """);
    Script.play("Promise 13: -1: or there is no SHEET", NONE + """
        one 0 0 ! -1; one 0 1 ! -1; one 0 2 ! -1; one -1 0 ! -1
        """);
    Script.play("Promise 13: -2, -3; -1", """
        one 0 0 ! -2; one 0 1 ! -2; one -1 0 ! -2; one max max ! -2; cell 0 0; one 0 0 ! -2; one 0 1 ! -2; start 1
        one 0 0 = 1; one 0 1 ! -1
        """);
    Script.play("Promise 13: -2, -3; -1", Scenes.LOOPS_SPENT + """
        one 0 0 ! -3; one 0 5 ! -3; one 0 6 ! -3; one -1 0 ! -3; start 1; one 0 0 = 1
        """);
  }

  private static void part() {
    int all = 1;
    for (int n = 1; n <= 6; n++) {
      all *= 5;
      Script.play("Promise 14: n ACTS (1 .. 6), told as digits to the base 5", Scenes.TWO_SHEETS + """
          part $1 0 = 2; part $1 $2 = 1; part $1 $3 ! -1; part $1 -1 ! -1; part $1 max ! -1; part $1 min ! -1
          """, n, all - 1, all);
    }
    Script.play("Promise 14: n ACTS (1 .. 6)", Scenes.TWO_SHEETS + """
        part 0 0 ! -1; part 7 0 ! -1; part -1 0 ! -1; part min 0 ! -1; part max 0 ! -1; part 0 -1 ! -1
        part 7 78125 ! -1
        """);
    // Found by a search with the class; Model, which has no code of it, counts as many.
    Script.play("Promise 14: Into how many sets: many", """
        cell 0 0; cell 0 0; lead 1 0 1 1; lead 0 1 1 1; lead 1 1 1 0; lead 1 3 1 1; start 3; acts 03134301245
        sheets = 130; part 6 11776 = 36; part 1 0 = 4; part 6 11776 = 36
        """);
    Script.play("Promise 14: (the first one the highest)", Scenes.TWO_SHEETS + """
        part 2 1 = 2; part 2 4 = 2; part 2 5 = 1; part 2 20 = 1; part 3 24 = 2; part 3 25 = 1; part 4 124 = 2
        part 4 125 = 1; part 5 624 = 2; part 5 625 = 1; part 6 3124 = 2; part 6 3125 = 1
        """);
    Script.play("Promise 14: -1 (there are no SHEETS, too)", NONE + "part 1 0 ! -1; part 6 0 ! -1; part 0 0 ! -1");
    Script.play("Promise 14: -2", """
        part 1 0 ! -2; part 6 15624 ! -2; part 6 15625 ! -1; cell 0 0; part 1 0 ! -2; part 0 0 ! -1; start 1
        part 1 0 = 1
        """);
    Script.play("Promise 14: -3", Scenes.LOOPS_SPENT + """
        part 1 0 ! -3; part 6 15624 ! -3; part 6 15625 ! -1; part 7 0 ! -1; start 1; part 1 0 = 1
        """);
  }

  private static void next() {
    Script.play("Promise 15: at most n ACTS (1 .. 3)", Scenes.TWO_SHEETS + """
        next 0 ! -1; next 1 = 200; next 2 = 200; next 3 = 200; next 4 ! -1; next -1 ! -1; next min ! -1
        next max ! -1
        """);
    Script.play("Promise 15: -1 (no SHEETS, too)", NONE + "next 1 ! -1; next 3 ! -1; next 0 ! -1; next 4 ! -1");
    Script.play("Promise 15: -2", """
        next 1 ! -2; next 3 ! -2; next 0 ! -1; next 4 ! -1; cell 0 0; next 1 ! -2; start 1; next 1 = 200
        """);
    Script.play("Promise 15: -3", Scenes.LOOPS_SPENT + """
        next 1 ! -3; next 3 ! -3; next 0 ! -1; next 4 ! -1; start 1; next 1 = 200
        """);
  }

  private static void nextOfSeveral() {
    Script.play("Promise 15: the most sets, of these the shortest", """
        cell 0 0; cell 0 0; cell 0 0; cell 1 0; lead 0 0 1 1; lead 1 0 1 2; lead 2 0 1 3; lead 3 0 1 0; start 4
        acts 0000; sheets = 3; part 1 0 = 2; part 2 0 = 3; part 3 0 = 3; next 1 = 200; next 2 = 400; next 3 = 400
        """);
    // A ring of four like SIGNS and another one: the fourth PLACE is told from the third by three ACTS alone.
    Script.play("Promise 15: a row of three", """
        cell 0 0; cell 0 0; cell 0 0; cell 0 0; cell 1 0; lead 0 0 1 1; lead 1 0 1 2; lead 2 0 1 3; lead 3 0 1 4
        lead 4 0 1 0; start 5; acts 00000; sheets = 4; next 1 = 200; part 1 0 = 2; next 2 = 400; part 2 0 = 3
        next 3 = 600; part 3 0 = 4
        """);
    for (int act = 1; act <= 3; act++) {
      Script.play("Promise 15: of these the one with the least digits", """
          cell 0 0; cell 0 0; lead 0 $1 1 1; start 2; act $1; sheets = 2; part 1 $1 = 2; part 1 0 = 1
          next 1 = 20$1; next 2 = 20$1; next 3 = 20$1
          """, act);
    }
    Script.play("Promise 15: ACT 4 is the last", """
        cell 0 0; start 2; act 4; sheets = 2; part 1 4 = 2; next 1 = 204; next 3 = 204
        """);
    Script.play("Promise 15: two that part alike", """
        cell 0 0; cell 0 0; lead 0 2 1 1; start 2; acts 312; sheets = 2; part 1 1 = 2; part 1 2 = 2; part 1 3 = 2
        part 1 0 = 1; part 1 4 = 1; next 1 = 201; next 3 = 201
        """);
  }
}
