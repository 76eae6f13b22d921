import java.util.Arrays;

/** "A refused call changes nothing": each refusal of each promise, in each state that a run can come to. */
public final class RefusalTest {
  private static final String CHANGES_NOTHING = "A refused call changes nothing";

  /** Refused calls are calls, too, and behind a full walk there is room for so many. */
  private static final int AT_ONCE = 100;

  /** Refused with -1 in every state: the nearest numbers out of range, and the farthest. */
  private static final String ALWAYS = """
      cell -1 0; cell 4 1; cell min 0; cell max 1
      lead -1 0 1 0; lead 10 0 1 0; lead min 0 1 0; lead max 0 1 0; lead 0 -1 1 0; lead 0 4 1 0; lead 0 min 1 0
      lead 0 max 1 0; lead 0 0 -1 0; lead 0 0 6 0; lead 0 0 min 0; lead 0 0 max 0; lead -1 0 0 0; lead 10 0 0 0
      lead 0 -1 0 0; lead 0 4 0 0; lead 0 0 1 -1; lead 0 0 1 10; lead 0 1 2 -1; lead 0 1 2 10; lead 0 2 3 -1
      lead 0 2 3 10; lead 0 3 4 -1; lead 0 3 4 10; lead 1 0 5 -1; lead 1 0 5 10; lead 1 1 1 min; lead 1 1 1 max
      start 0; start 7; start -1; start min; start max; act -1; act 6; act min; act max
      seen -1; seen 4; seen min; seen max
      walk -1 0; walk 200 0; walk 0 -1; walk 0 4; walk min 0; walk 0 max
      sheet -1 0; sheet 150 0; sheet 0 -1; sheet 0 4; sheet min 0; sheet 0 max
      sign -1 0; sign 150 0; sign 0 -1; sign 0 6
      leads -1 0 0; leads 150 0 0; leads 0 -1 0; leads 0 6 0; leads 0 0 -1; leads 0 0 5; leads max 0 0; leads 0 min 0
      part 0 0; part 7 0; part -1 0; part min 0; part max 0; part 1 -1; part 6 -1; part 3 min; part 6 max; part 1 5
      part 2 25; part 3 125; part 4 625; part 5 3125; part 6 15625; next 0; next 4; next -1; next min; next max
      go -1 0; go 150 0; go 0 -1; go 0 6; go min 0; go 0 max; way -1; way 5; way 6; way min; way max
      hand -1 1 o12345; hand 6 1 o12345; hand min 1 o12345; hand 0 -1 o12345; hand 1 4 o12345; hand 2 max o12345
      hand 3 1 -1; hand 4 2 o100000; hand 5 1 min; hand 0 1 max; hand 0 1 o100000; hand 1 2 -1; hand 5 -1 0
      hand 4 4 0; isTrue -1; isTrue 150; isTrue min; isTrue max; count -1; count 6; count min; count max
      keep -1 0 0; keep 8 0 0; keep -1 1 0; keep 8 1 0; keep -1 3 0; keep 8 3 0; keep -1 4 0; keep 8 4 0; keep 0 -1 0
      keep 0 2 0; keep 0 5 0; keep 0 min 0; keep 0 max 0; keep 1 1 -1; keep 1 1 40; keep 1 1 min; keep 1 1 max
      keep 4 4 -1; keep 5 4 150; keep 4 4 min; keep 5 4 max
      make -1 3 1; make 8 3 1; make 3 -1 1; make 3 0 1; make 3 1 1; make 3 2 1; make 3 5 1; make 3 3 61; make 3 4 61
      make 4 3 max; make 8 4 -1; make 0 2 -1; make min 3 0; make 0 max 0
      copy -1 0 0 0 0; copy 8 0 0 0 0; copy 0 0 -1 0 0; copy 0 0 8 0 0; copy min 0 3 0 1; copy 3 0 max 0 1
      weight -1; weight 8; weight min; weight max; toss -1; toss 8; toss min; toss max
      """;

  private static final String NO_START = """
      act 0 ! -2; act 5 ! -2; seen 0 ! -2; seen 3 ! -2; sheets ! -2; known ! -2; one 0 0 ! -2; one 0 1 ! -2
      one -1 0 ! -2; part 1 0 ! -2; part 6 15624 ! -2; next 1 ! -2; next 3 ! -2; fits ! -2; reached ! -2; count 1 ! -2
      count 2 ! -2; count 3 ! -2; count 4 ! -2; count 5 ! -2; walk 0 0 ! -1; sheet 0 0 ! -1; leads 0 0 0 ! -1
      sign 0 0 ! -1; go 0 0 ! -1; way 0 ! -1; isTrue 0 ! -1; keep 0 3 0 ! -1; keep 3 3 0 ! -1; keep 0 4 0 ! -1
      keep 3 4 0 ! -1
      """;

  /** For all states in which SHELVES hold what Scenes.SHELVES tells. */
  private static final String OF_SHELVES = """
      make 0 3 -1 ! -14; make 3 4 -1 ! -14; make 3 3 min ! -14; make 7 4 min ! -14
      element -1 0 ! IAE; element 8 0 ! IAE; element min 0 ! IAE; element max 0 ! IAE; element 7 0 ! ISE
      element 0 0 ! ISE; element 3 -1 ! ISE; element 3 3 ! ISE; element 3 min ! ISE; element 3 max ! ISE
      copy 7 0 3 0 1 ! -11; copy 3 0 7 0 1 ! -11; copy 7 0 6 0 0 ! -11; copy 0 0 7 0 0 ! -11; copy 0 0 3 0 1 ! -12
      copy 3 0 0 0 1 ! -12; copy 0 0 1 0 0 ! -12; copy 3 0 3 1 3 ! -13; copy 3 1 3 0 3 ! -13; copy 3 0 3 0 -1 ! -13
      copy 3 -1 3 0 1 ! -13; copy 3 0 3 -1 1 ! -13; copy 3 0 3 0 4 ! -13; copy 3 4 3 0 0 ! -13; copy 3 0 3 4 0 ! -13
      copy 3 max 3 max max ! -13; copy 3 1 3 2 max ! -13; copy 3 min 3 min min ! -13
      weight 7 ! -11; weight 3 ! -12; toss 7 ! -11; toss 3 ! -12; toss 2 ! -15
      """;

  public static void main(String[] args) {
    everywhere("a new object", "");
    everywhere("no start", Scenes.NOT_STARTED);
    everywhere("no ACTS", Scenes.BEGUN);
    everywhere("a walk", Scenes.WALKED);
    everywhere("no SHEETS", Scenes.NO_SHEETS);
    everywhere("SPENT", Scenes.SPENT);
    everywhere("a full walk", Scenes.FULL_WALK);
    everywhere("ten CELLS", Scenes.TEN_CELLS);
    withoutAStart();
    begun();
    walked();
    withoutSheets();
    full();
    Check.end();
  }

  private static void everywhere(String state, String scene) {
    String[] calls = ALWAYS.split("[;\n]");
    for (int from = 0; from < calls.length; from += AT_ONCE) {
      StringBuilder run = new StringBuilder(scene);
      for (String call : Arrays.copyOfRange(calls, from, Math.min(calls.length, from + AT_ONCE))) {
        run.append(call).append(" ! -1\n");
      }
      Script.play(CHANGES_NOTHING + ": " + state, run.toString());
    }
  }

  private static void withoutAStart() {
    Script.play(CHANGES_NOTHING + ": a new object", NO_START + """
        start 1 ! -2; start 6 ! -2; lead 0 0 0 0 ! -1; lead 0 0 1 0 ! -1; keep 0 1 0 ! -1; keep 0 1 3 ! -1
        weight 0 ! -11; weight 7 ! -11; toss 0 ! -11; toss 7 ! -11; element 0 0 ! ISE; element 7 59 ! ISE
        copy 0 0 7 0 0 ! -11
        """);
    Script.play(CHANGES_NOTHING + ": no start", Scenes.NOT_STARTED + NO_START);
    Script.play(CHANGES_NOTHING + ": no start", Scenes.NOT_STARTED + OF_SHELVES);
    Script.play(CHANGES_NOTHING + ": four CELLS", Scenes.NOT_STARTED + """
        lead 4 0 1 0 ! -1; lead 4 0 0 0 ! -1; lead 0 0 1 4 ! -1; lead 0 0 5 4 ! -1; keep 0 1 16 ! -1; keep 3 1 16 ! -1
        """);
  }

  private static void begun() {
    Script.play(CHANGES_NOTHING + ": no ACTS", Scenes.BEGUN + OF_SHELVES);
    Script.play(CHANGES_NOTHING + ": no ACTS", Scenes.BEGUN + """
        walk 0 0 ! -1; one 0 1 ! -1; one 1 0 ! -1; one -1 0 ! -1; one 0 -1 ! -1; way 0 ! -1; sheet 1 0 ! -1
        leads 0 1 0 ! -1; leads 1 0 0 ! -1; sign 0 1 ! -1; sign 1 0 ! -1; go 0 1 ! -1; go 1 0 ! -1; isTrue 1 ! -1
        keep 0 4 1 ! -1; keep 3 4 1 ! -1
        """);
  }

  private static void walked() {
    Script.play(CHANGES_NOTHING + ": a walk", Scenes.WALKED + OF_SHELVES);
    Script.play("the scene", Scenes.WALKED + """
        sheets = 14; count 2 = 1; count 3 = 1; count 5 = 1; way 0 = 0; way 1 = 1; way 2 = 2; fits = 0; sheet 13 0 = 4
        element 4 0 = 0; element 4 10 = 4; element 5 3 = 0; element 3 0 = 5; element 3 1 = 1; element 3 2 = 0
        """);
    Script.play(CHANGES_NOTHING + ": a walk", Scenes.WALKED + """
        walk 11 0 ! -1; one 0 12 ! -1; one 12 0 ! -1; one -1 0 ! -1; one 0 -1 ! -1; one max min ! -1; way 3 ! -1
        sheet 14 0 ! -1; leads 14 0 0 ! -1; sign 14 0 ! -1; go 14 0 ! -1; go 13 4 ! -1; leads 13 4 0 ! -1
        sign 13 4 ! -1; isTrue 14 ! -1; go 13 0 ! -2; go 13 1 ! -2; keep 4 4 14 ! -1; keep 5 4 14 ! -1
        copy 4 0 5 0 1 ! -12; copy 5 0 4 0 1 ! -12; copy 4 0 3 0 4 ! -13; copy 3 0 4 9 3 ! -13; element 4 11 ! ISE
        element 5 4 ! ISE; make 4 3 -1 ! -14; make 5 4 -1 ! -14
        """);
  }

  private static void withoutSheets() {
    String told = """
        sheet 0 0 ! -1; leads 0 0 0 ! -1; sign 0 0 ! -1; go 0 0 ! -1; isTrue 0 ! -1; keep 0 4 0 ! -1; keep 4 4 0 ! -1
        """;
    Script.play(CHANGES_NOTHING + ": no SHEETS", Scenes.NO_SHEETS + "sheets = 0\n" + told + """
        one 0 0 ! -1; one 0 4 ! -1; one 0 5 ! -1; one -1 0 ! -1; part 1 0 ! -1; part 6 0 ! -1; next 1 ! -1; next 3 ! -1
        """);
    Script.play(CHANGES_NOTHING + ": SPENT", Scenes.SPENT + told + """
        sheets ! -3; known ! -3; one 0 0 ! -3; one 0 9 ! -3; one 0 10 ! -3; one -1 0 ! -3; part 1 0 ! -3; part 6 0 ! -3
        next 1 ! -3; next 3 ! -3
        """);
  }

  private static void full() {
    Script.play(CHANGES_NOTHING + ": a full walk", Scenes.FULL_WALK + """
        count 4 = 200; act 0 ! -3; act 1 ! -3; act 2 ! -3; act 3 ! -3; act 4 ! -3; act 5 ! -3; walk 200 0 ! -1
        one 0 201 ! -1; one 201 200 ! -1
        """);
    Script.play(CHANGES_NOTHING + ": ten CELLS", Scenes.TEN_CELLS + """
        cell 0 0 ! -2; cell 3 1 ! -2; lead 9 3 1 10 ! -1; keep 0 1 40 ! -1
        """);
  }
}
