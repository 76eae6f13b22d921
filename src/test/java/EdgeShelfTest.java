/** The boundary cases of promises 23 to 28, sentence by sentence. */
public final class EdgeShelfTest {
  /** A LEAD on SHELF 1, three bytes 1 2 3 on 2, four longs on 3, two bytes on 4, no bytes on 5. */
  private static final String ROWS = """
      cell 2 0; keep 1 1 0; start 1; acts 123; keep 2 3 0; make 3 4 4; make 4 3 2; make 5 3 0
      """;

  public static void main(String[] args) {
    keep();
    keepLead();
    keepActs();
    keepSigns();
    make();
    element();
    copy();
    copyInItself();
    copyRefused();
    weight();
    toss();
    Check.end();
  }

  private static void keep() {
    Script.play("Promise 23: SHELF d gets: -1", """
        cell 0 0; start 1; keep -1 1 0 ! -1; keep 0 1 0 = 0; keep 7 1 0 = 0; keep 8 1 0 ! -1; keep min 1 0 ! -1
        keep max 1 0 ! -1; keep 0 -1 0 ! -1; keep 0 2 0 ! -1; keep 0 5 0 ! -1; keep 0 min 0 ! -1; keep 0 max 0 ! -1
        weight 0 = 1; weight 7 = 1
        """);
    Script.play("Promise 23: what = 0 nothing", """
        cell 0 0; keep 0 1 0; make 1 3 2; make 2 4 2; keep 0 0 min = 0; keep 1 0 -1 = 0; keep 2 0 max = 0
        keep 3 0 0 = 0; weight 0 ! -11; element 1 0 ! ISE; copy 1 0 2 0 0 ! -11; weight 1 ! -11; weight 2 ! -11
        weight 3 ! -11
        """);
  }

  private static void keepLead() {
    Script.play("Promise 23: 1 LEAD k modulo 4 of CELL k / 4 (k 0 or more)", """
        keep 0 1 0 ! -1; cell 0 0; cell 0 0; lead 0 0 1 0; lead 0 3 2 1; lead 1 0 3 0; lead 1 3 4 1; keep 0 1 -1 ! -1
        keep 0 1 0 = 0; weight 0 = 10; keep 0 1 3 = 0; weight 0 = 111; keep 0 1 4 = 0; weight 0 = 1010; keep 0 1 7 = 0
        weight 0 = 2011; keep 0 1 8 ! -1; keep 0 1 -4 ! -1; keep 0 1 min ! -1; keep 0 1 max ! -1; weight 0 = 2011
        keep 0 1 1 = 0; weight 0 = 1; keep 0 1 6 = 0; weight 0 = 1
        """);
    Script.play("Promise 23: 1: of ten CELLS", """
        10x cell 0 0; lead 9 3 1 9; keep 0 1 39 = 0; weight 0 = 19; keep 0 1 40 ! -1; weight 0 = 19
        """);
  }

  private static void keepActs() {
    Script.play("Promise 23: (3: without a start, too)", """
        keep 0 3 0 ! -1; cell 0 0; keep 0 1 0; keep 0 3 0 ! -1; weight 0 = 1; start 1; keep 0 3 0 = 0
        weight 0 ! -12
        """);
    Script.play("Promise 23: 3 a ROW of bytes: the ACTS of THE WALK", """
        cell 0 0; start 1; keep 0 3 min = 0; element 0 0 ! ISE; act 3; element 0 0 ! ISE; keep 0 3 max = 0
        element 0 0 = 3; element 0 1 ! ISE; act 5; keep 1 3 -1 = 0; element 1 0 = 3; element 1 1 = 5
        element 1 2 ! ISE; start 1; element 1 1 = 5; keep 1 3 0; element 1 0 ! ISE
        """);
    Script.play("Promise 23: (the latest 60 at most, as they came)", """
        cell 0 0; start 1; act 1; act 2; 57x act 4; keep 0 3 0; element 0 0 = 1; element 0 58 = 4; element 0 59 ! ISE
        act 3; keep 0 3 0; element 0 0 = 1; element 0 1 = 2; element 0 2 = 4; element 0 59 = 3; element 0 60 ! ISE
        act 5; keep 0 3 0; element 0 0 = 2; element 0 1 = 4; element 0 57 = 4; element 0 58 = 3; element 0 59 = 5
        element 0 60 ! ISE; 139x act 0; keep 0 3 0; element 0 0 = 0; element 0 59 = 0; element 0 60 ! ISE
        """);
    Script.play("Promise 23: 3: SPENT, too", Scenes.LOOPS_SPENT + "keep 0 3 0 = 0; element 0 4 = 4; element 0 5 ! ISE");
  }

  private static void keepSigns() {
    Script.play("Promise 23: 4 a ROW of longs: the SIGNS of all PLACES of SHEET k", """
        keep 0 4 0 ! -1; cell 3 0; cell 1 0; lead 0 0 1 1; lead 1 0 1 0; keep 0 4 0 ! -1; start 3; keep 0 4 -1 ! -1
        keep 0 4 0 = 0; element 0 0 = 3; element 0 1 ! ISE; keep 0 4 1 ! -1; acts 00; sheets = 2; keep 0 4 0 = 0
        keep 1 4 1 = 0; keep 1 4 2 ! -1; keep 1 4 min ! -1; keep 1 4 max ! -1; element 0 1 = 1; element 0 2 ! ISE
        element 1 0 = 3; element 1 1 = 1; element 1 2 = 3; element 1 3 ! ISE; copy 0 0 1 0 2 = 2; make 2 3 2
        copy 0 0 2 0 2 ! -12
        """);
    Script.play("Promise 23: 4: of six PLACES", """
        cell 2 0; lead 0 0 1 0; start 6; acts 00000; sheets = 16; keep 0 4 15 = 0; element 0 5 = 2
        element 0 6 ! ISE; keep 0 4 16 ! -1
        """);
    Script.play("Promise 23: 4: SPENT", Scenes.LOOPS_SPENT + """
        make 0 4 1; keep 0 4 0 ! -1; element 0 0 = 0; element 0 1 ! ISE
        """);
  }

  private static void make() {
    for (int what = 3; what <= 4; what++) {
      Script.play("Promise 24: a ROW of n bytes, or longs, 0 (n up to 60)", """
          make 0 $1 0 = 0; element 0 0 ! ISE; weight 0 ! -12; make 0 $1 1 = 0; element 0 0 = 0; element 0 1 ! ISE
          make 0 $1 59 = 0; element 0 58 = 0; element 0 59 ! ISE; make 0 $1 60 = 0; element 0 59 = 0; element 0 60 ! ISE
          make 0 $1 61 ! -1; make 0 $1 max ! -1; element 0 59 = 0
          """, what);
      Script.play("Promise 24: -14: n is below 0", """
          make 0 $1 -1 ! -14; make 0 $1 min ! -14; weight 0 ! -11; make 0 $1 0 = 0; weight 0 ! -12; make 0 $1 2 = 0
          make 0 $1 -1 ! -14; element 0 1 = 0
          """, what);
      Script.play("Promise 24: -1", """
          make -1 $1 1 ! -1; make 8 $1 1 ! -1; make 7 $1 1 = 0; make 0 $1 1 = 0; make 8 $1 -1 ! -1; make -1 $1 -1 ! -1
          make 8 $1 61 ! -1
          """, what);
    }
    Script.play("Promise 24: (what 3, 4)", """
        make 0 3 1; make 0 2 1 ! -1; make 0 5 1 ! -1; make 0 0 1 ! -1; make 0 1 1 ! -1; make 0 -1 1 ! -1
        make 0 min 1 ! -1; make 0 max 1 ! -1; make 0 2 -1 ! -1; make 0 5 -1 ! -1; make 0 2 61 ! -1; element 0 0 = 0
        """);
    Script.play("Promise 24: 0 where a ROW was", """
        cell 0 0; start 1; acts 333; keep 0 3 0; element 0 2 = 3; make 0 3 3; element 0 0 = 0; element 0 2 = 0
        """);
    Script.play("Promise 24: 0 where a longer ROW was", """
        cell 0 0; start 1; acts 333; keep 0 3 0; make 0 4 2; make 0 3 3; element 0 2 = 0
        """);
  }

  private static void element() {
    Script.play("Promise 25: IllegalArgumentException: no such SHELF", ROWS + """
        element -1 0 ! IAE; element 0 0 ! ISE; element 7 0 ! ISE; element 8 0 ! IAE; element min 0 ! IAE
        element max 0 ! IAE; element -1 -1 ! IAE; element 8 60 ! IAE
        """);
    Script.play("Promise 25: IllegalStateException: nothing is held, it is no ROW, or has no such place", ROWS + """
        element 0 0 ! ISE; element 1 0 ! ISE; element 1 -1 ! ISE; element 2 -1 ! ISE; element 2 0 = 1; element 2 2 = 3
        element 2 3 ! ISE; element 3 3 = 0; element 3 4 ! ISE; element 3 -1 ! ISE; element 5 0 ! ISE
        element 2 min ! ISE; element 2 max ! ISE
        """);
  }

  private static void copy() {
    Script.play("Promise 26: n elements from place i come to place j: n", ROWS + """
        copy 2 0 4 0 2 = 2; element 4 0 = 1; element 4 1 = 2; copy 2 1 4 0 2 = 2; element 4 0 = 2; element 4 1 = 3
        copy 2 0 4 1 1 = 1; element 4 0 = 2; element 4 1 = 1; element 2 0 = 1; element 2 1 = 2; element 2 2 = 3
        make 2 3 3; element 4 0 = 2
        """);
    Script.play("Promise 26: n elements: none", ROWS + """
        copy 2 0 4 0 0 = 0; copy 2 3 4 2 0 = 0; copy 5 0 5 0 0 = 0; copy 5 0 2 3 0 = 0; element 2 0 = 1
        element 4 0 = 0
        """);
    Script.play("Promise 26: n elements: sixty", """
        cell 0 0; start 1; act 3; 58x act 4; act 5; keep 0 3 0; make 1 3 60; copy 0 0 1 0 61 ! -13; copy 0 0 1 0 60 = 60
        element 1 0 = 3; element 1 58 = 4; element 1 59 = 5
        """);
    Script.play("Promise 26: longs", """
        cell 3 0; cell 1 0; lead 0 0 1 1; start 2; act 0; keep 0 4 0; make 1 4 3; copy 0 0 1 1 2 = 2
        element 1 0 = 0; element 1 1 = 3; element 1 2 = 1
        """);
  }

  private static void copyInItself() {
    String six = "cell 0 0; start 1; acts 012345; keep 0 3 0; ";
    Script.play("Promise 26: (as they all were before): upwards", six + """
        copy 0 0 0 1 5 = 5; element 0 0 = 0; element 0 1 = 0; element 0 2 = 1; element 0 3 = 2; element 0 4 = 3
        element 0 5 = 4
        """);
    Script.play("Promise 26: (as they all were before): downwards", six + """
        copy 0 1 0 0 5 = 5; element 0 0 = 1; element 0 1 = 2; element 0 2 = 3; element 0 3 = 4; element 0 4 = 5
        element 0 5 = 5
        """);
    Script.play("Promise 26: (as they all were before): where they are", six + """
        copy 0 0 0 0 6 = 6; element 0 0 = 0; element 0 5 = 5
        """);
  }

  private static void copyRefused() {
    Script.play("Promise 26: -1", ROWS + """
        copy -1 0 2 0 1 ! -1; copy 8 0 2 0 1 ! -1; copy 2 0 -1 0 1 ! -1; copy 2 0 8 0 1 ! -1; copy 2 0 min 0 1 ! -1
        copy max 0 2 0 1 ! -1; copy 8 0 0 0 1 ! -1; copy 0 0 8 0 1 ! -1; copy 1 0 8 0 -1 ! -1
        """);
    Script.play("Promise 26: -11: of either", ROWS + """
        copy 0 0 2 0 1 ! -11; copy 2 0 0 0 1 ! -11; copy 7 0 2 0 1 ! -11; copy 2 0 7 0 1 ! -11; copy 0 0 7 0 0 ! -11
        copy 0 0 1 0 1 ! -11; copy 1 0 0 0 1 ! -11; copy 0 0 2 0 -1 ! -11; copy 2 4 0 0 1 ! -11
        """);
    Script.play("Promise 26: -12: one is no ROW, or they are not of one kind", ROWS + """
        copy 1 0 2 0 1 ! -12; copy 2 0 1 0 1 ! -12; copy 1 0 1 0 0 ! -12; copy 2 0 3 0 1 ! -12; copy 3 0 2 0 1 ! -12
        copy 2 0 3 0 0 ! -12; copy 2 -1 3 0 1 ! -12; copy 2 0 3 5 1 ! -12; copy 2 0 3 0 -1 ! -12
        """);
    Script.play("Promise 26: -13: n, i or j is below 0", ROWS + """
        copy 2 0 4 0 -1 ! -13; copy 2 -1 4 0 1 ! -13; copy 2 0 4 -1 1 ! -13; copy 2 -1 4 0 0 ! -13
        copy 2 0 4 -1 0 ! -13; copy 2 0 4 0 min ! -13; copy 2 min 4 0 1 ! -13; copy 2 0 4 min 1 ! -13
        copy 2 -1 4 -1 2 ! -13; copy 2 1 4 1 -1 ! -13
        """);
    Script.play("Promise 26: -13: or beyond either's end", ROWS + """
        copy 2 3 4 0 0 = 0; copy 2 4 4 0 0 ! -13; copy 2 0 4 2 0 = 0; copy 2 0 4 3 0 ! -13; copy 2 1 4 0 2 = 2
        copy 2 2 4 0 2 ! -13; copy 4 0 2 1 2 = 2; copy 4 0 2 2 2 ! -13; copy 2 0 4 0 3 ! -13; copy 4 0 2 0 3 ! -13
        copy 2 3 4 0 1 ! -13; copy 2 0 4 2 1 ! -13; copy 2 1 4 0 max ! -13; copy 2 max 4 0 1 ! -13
        copy 2 0 4 max 1 ! -13; copy 2 max 4 max max ! -13; copy 5 0 5 0 1 ! -13; copy 5 1 5 0 0 ! -13
        """);
  }

  private static void weight() {
    Script.play("Promise 27: -1, -11, -12", ROWS + """
        weight -1 ! -1; weight 8 ! -1; weight 0 ! -11; weight 7 ! -11; weight 1 = 1; weight 2 ! -12; weight 3 ! -12
        weight 5 ! -12; weight min ! -1; weight max ! -1
        """);
    for (int to = 0; to <= 9; to += 9) {
      int[] weights = {1, 10 + to, 110 + to, 1010 + to, 2010 + to, 220 + 2 * to};
      for (int kind = 0; kind <= 5; kind++) {
        Script.play("Promise 27: The WEIGHT of the LEAD", """
            10x cell 0 0; lead 5 1 $1 $2; keep 0 1 21; weight 0 = $3
            """, kind, to, weights[kind]);
      }
    }
  }

  private static void toss() {
    Script.play("Promise 28: -1, -11, -12; -15: WALLS have none", ROWS + """
        toss -1 ! -1; toss 8 ! -1; toss 0 ! -11; toss 7 ! -11; toss 2 ! -12; toss 3 ! -12; toss 5 ! -12
        toss 1 ! -15; lead 0 0 1 0; toss 1 ! -15; keep 1 1 0; toss 1 = 0; toss 1 = 0; weight 1 = 10; toss min ! -1
        toss max ! -1
        """);
    Script.play("Promise 28: a WALL where another was", """
        cell 0 0; cell 0 0; lead 0 0 1 1; keep 0 1 0; toss 0 = 1; lead 0 0 0 1; keep 0 1 0; toss 0 ! -15
        """);
  }
}
