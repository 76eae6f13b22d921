/** The boundary cases of promises 16 to 20, sentence by sentence. */
public final class EdgeWayTest {
  /** Six CELLS in a ring by LEAD 0, two SIGNS twice among them. */
  private static final String RING_OF_SIX = """
      cell 0 0; cell 1 0; cell 2 0; cell 3 0; cell 1 0; cell 2 0
      lead 0 0 1 1; lead 1 0 1 2; lead 2 0 1 3; lead 3 0 1 4; lead 4 0 1 5; lead 5 0 1 0
      """;

  public static void main(String[] args) {
    go();
    way();
    wayOfFive();
    hand();
    handDigits();
    fits();
    fitsBeginning();
    fitsPebble();
    isTrue();
    Check.end();
  }

  private static void go() {
    Script.play("Promise 16: -1", "go 0 0 ! -1; " + Scenes.TWO_CELLS + """
        go 0 0 ! -1; start 2; go -1 0 ! -1; go 0 0 = 0; go 1 0 ! -1; go 0 -1 ! -1; go 0 1 ! -1; act 0; go 0 1 = 0
        go 0 2 ! -1; go min 0 ! -1; go max 0 ! -1; go 0 min ! -1; go 0 max ! -1; go 0 5 ! -1; go 0 6 ! -1
        """);
    Script.play("Promise 16: -2: it can't be come to", Scenes.TWO_CELLS + """
        start 2; act 0; go 0 0 ! -2; act 0; go 0 0 = 0; go 0 1 = 1; act 0; go 0 0 = 1
        """);
    Script.play("Promise 16: by what is known: a BUMP leads nowhere", Scenes.TWO_CELLS + """
        start 2; act 0; acts 1234; go 0 0 ! -2; go 0 1 = 0
        """);
    Script.play("Promise 16: ACTS (0 .. 4)", """
        cell 0 1; start 2; acts 44; sheets = 3; go 1 1 = 1; way 0 = 4; go 2 0 ! -2; go 2 1 = 0
        """);
    Script.play("Promise 16: no SHEETS", Scenes.TWO_CELLS + "start 1; act 0; go 0 0 ! -1");
    Script.play("Promise 16: SPENT", Scenes.LOOPS_SPENT + "go 0 0 ! -1");
  }

  private static void way() {
    Script.play("Promise 17: -1: there is none", "way 0 ! -1; way -1 ! -1; " + Scenes.TWO_CELLS + """
        start 2; way 0 ! -1; go 0 0 = 0; way 0 ! -1; way -1 ! -1
        """);
    Script.play("Promise 17: ACT i, from 0", Scenes.TWO_CELLS + """
        start 2; acts 00; go 0 1 = 1; way -1 ! -1; way 0 = 0; way 1 ! -1; way min ! -1; way max ! -1
        """);
    Script.play("Promise 17: that go() told last that was not refused", Scenes.TWO_CELLS + """
        lead 0 2 1 1; start 2; acts 200; go 0 0 = 1; way 0 = 0; go 0 2 ! -1; go 1 0 ! -1; way 0 = 0; start 2; way 0 = 0
        act 2; go 0 0 ! -2; way 0 = 0; way 1 ! -1; acts 0; go 0 1 = 1; way 0 = 2; go 0 0 = 0; way 0 ! -1
        """);
    Script.play("Promise 17: of each step the least ACT by which it is fewest", Scenes.TWO_CELLS + """
        lead 0 1 1 1; lead 0 3 1 1; start 2; acts 3010; sheets = 1; go 0 1 = 1; way 0 = 1; acts 00; go 0 1 = 1
        way 0 = 0
        """);
  }

  private static void wayOfFive() {
    // The PEBBLE on the first 1 tells it from the second, and then the SIGN behind it the first 2 from the second.
    String known = RING_OF_SIX + "start 6; act 0; act 5; acts 0000; sheets = 2; act 0; sheets = 1; act 0; seen 1 = 1; ";
    Script.play("Promise 16: The fewest ACTS: the longest way has five", known + """
        sheet 0 0 = 6; sheet 0 1 = 1; go 0 0 = 5; way 0 = 0; way 4 = 0; way 5 ! -1; way 6 ! -1; go 0 1 = 0
        way 0 ! -1; go 0 2 = 1; way 1 ! -1
        """);
  }

  private static void hand() {
    for (int p = 0; p <= 5; p++) {
      Script.play("Promise 18: PLACE p (0 .. 5)", Scenes.HAND + """
          hand $1 3 0 = 0; hand $1 0 o77777 = 0; hand $1 -1 0 ! -1; hand $1 4 0 ! -1
          hand -1 0 0 ! -1; hand 6 0 0 ! -1; hand min 0 0 ! -1; hand max 0 0 ! -1
          """, p);
    }
    Script.play("Promise 18: five digits to the base 8", Scenes.BEGUN + """
        hand 0 0 -1 ! -1; hand 0 0 32768 ! -1; hand 5 1 -1 ! -1; hand 5 1 32768 ! -1; hand 1 2 min ! -1
        hand 1 2 max ! -1; hand 0 0 32767 = 0; act 0; fits = 1; hand 0 0 0 = 0; fits = 1; hand 0 1 0 = 0; fits = -4
        """);
    Script.play("Promise 18: (At first all SIGNS are 0, all ACTS unknown.)", """
        cell 0 0; cell 1 0; lead 0 0 1 0; start 1; fits = 0; act 0; fits = 1; start 1; act 1; fits = 1; start 1; act 4
        fits = 1; start 1; act 5; fits = 0; hand 0 0 o77775; start 1; act 0; fits = 0; act 0; fits = 2
        """);
    Script.play("Promise 18: a later one stands", """
        cell 1 0; start 1; hand 0 1 0; fits = 0; hand 0 2 0; fits = -4; hand 0 1 0; fits = 0
        """);
  }

  private static void handDigits() {
    for (int act = 0; act <= 3; act++) {
      Script.play("Promise 18: that of ACT 0 the lowest: 0 .. 5 a PLACE, 6 a BUMP, 7 unknown", """
          cell 0 0; lead 0 $1 1 0; start 1; act $1; hand 0 0 $2; fits = 0; hand 0 0 $3; fits = 0; hand 0 0 $4
          fits = 1; hand 0 0 o77777; fits = 1; lead 0 $1 0 0; start 1; act $1; hand 0 0 $2; fits = 1; hand 0 0 $3
          fits = 1; hand 0 0 $4; fits = 0; hand 0 0 o77777; fits = 1
          """, act, allUnknownBut(act, 0), allUnknownBut(act, 5), allUnknownBut(act, 6));
    }
    Script.play("Promise 18: 6 a BUMP (of 4: to itself)", """
        cell 0 0; start 1; act 4; hand 0 0 o07777; fits = 0; hand 0 0 o57777; fits = 0; hand 0 0 o67777; fits = 0
        hand 0 0 o77777; fits = 1; hand 5 1 0; hand 0 0 o57777; fits = 1
        """);
    Script.play("Promise 18: (of 4: to itself): of PLACE 5", """
        cell 0 0; cell 1 0; lead 0 0 1 1; start 2; acts 044; hand 0 0 o77775; hand 5 1 o67777; fits = 0
        hand 5 1 o57777; fits = 0; hand 5 1 o47777; fits = 2; hand 4 1 o77777; fits = 3; hand 4 1 o67777; fits = 0
        """);
  }

  private static int allUnknownBut(int act, int digit) {
    return 32767 - ((7 - digit) << (3 * act));
  }

  private static void fits() {
    Script.play("Promise 19: -2", """
        fits ! -2; hand 0 1 0; fits ! -2; cell 0 0; fits ! -2; start 1; fits = -4; hand 0 0 0; fits = 0
        """);
    String there = Scenes.TWO_CELLS + "hand 0 0 o77761; hand 1 1 o77760; start 2; ";
    Script.play("Promise 19: 0; else the number (from 1) of the first ACT", there + """
        fits = 0; act 0; fits = 0; act 0; fits = 0; act 1; fits = 0; act 2; fits = 4; acts 0000; fits = 4
        start 2; act 2; fits = 1; acts 00; fits = 1
        """);
    Script.play("Promise 19: the first and the last of 200", Scenes.TWO_CELLS + """
        hand 0 0 o77761; hand 1 1 o77760; start 2; 199x act 0; fits = 0; act 2; fits = 200; hand 1 1 o77660
        fits = 0; hand 1 2 o77660; fits = 1
        """);
    Script.play("Promise 19: (unknown ones it would not)", there + """
        act 0; act 1; fits = 0; hand 1 1 o77770; fits = 2; hand 0 0 o77767; fits = 1
        """);
    Script.play("Promise 19: another SIGN behind the ACT", there + """
        acts 00; hand 1 0 o77760; fits = 1; hand 1 1 o77761; fits = 2
        """);
    Script.play("Promise 19: a BUMP or not", there + """
        act 0; act 1; hand 1 1 o77700; fits = 2; hand 1 1 o77710; fits = 2; hand 0 0 o77766; fits = 1
        """);
  }

  private static void fitsBeginning() {
    for (int sign = 0; sign <= 3; sign++) {
      for (int told = 0; told <= 3; told++) {
        Script.play("Promise 19: -4: the SIGN at the beginning is another one", """
            cell $1 0; hand 0 $2 o77777; start 1; fits = $3; act 0; fits = $4
            """, sign, told, sign == told ? 0 : -4, sign == told ? 1 : -4);
      }
    }
    Script.play("Promise 19: at the beginning, not where the walker is", Scenes.TWO_CELLS + """
        hand 0 0 o77761; hand 1 1 o77770; start 2; act 0; fits = 0; hand 0 1 o77761; fits = -4
        """);
  }

  private static void fitsPebble() {
    Script.play("Promise 19: (The PEBBLE lies where it was put on the map.)", """
        cell 0 0; cell 0 0; lead 0 0 1 1; lead 1 0 1 0; start 2; acts 50; hand 0 0 o77770; fits = 2; hand 0 0 o77771
        fits = 0; act 0; fits = 3; hand 1 0 o77770; fits = 0; hand 1 0 o77771; fits = 3; hand 1 0 o77772; fits = 3
        hand 1 0 o77770; fits = 0; act 5; fits = 0; act 0; act 5; fits = 0; acts 00; fits = 0; hand 0 0 o77772
        hand 2 0 o77770; fits = 0
        """);
    Script.play("Promise 19: nothing to take", """
        cell 0 0; cell 1 0; lead 0 0 1 1; lead 1 0 1 0; hand 0 0 o77771; hand 1 1 o77770; start 2; acts 50550
        fits = 0; acts 55; fits = 0
        """);
  }

  private static void isTrue() {
    Script.play("Promise 20: -1", "isTrue 0 ! -1; " + Scenes.TWO_CELLS + """
        isTrue 0 ! -1; start 3; isTrue -1 ! -1; isTrue 0 = 1; isTrue 1 ! -1; acts 00; sheets = 2; isTrue 1 = 1
        isTrue 2 ! -1; isTrue min ! -1; isTrue max ! -1
        """);
    Script.play("Promise 20: no SHEETS", Scenes.TWO_CELLS + "start 1; act 0; isTrue 0 ! -1");
    Script.play("Promise 20: SPENT", Scenes.LOOPS_SPENT + "isTrue 0 ! -1");
    Script.play("Promise 20: 1, else 0", """
        cell 0 0; cell 0 0; lead 0 0 1 1; start 2; isTrue 0 = 1; act 0; isTrue 0 = 0; isTrue 1 = 1; act 0
        sheets = 1; isTrue 0 = 1; lead 1 0 1 0; isTrue 0 = 0
        """);
  }
}
