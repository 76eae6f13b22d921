/** The boundary cases of promises 1 to 7, 21 and 22, sentence by sentence. */
public final class EdgeHouseTest {
  public static void main(String[] args) {
    aNewObject();
    cell();
    lead();
    start();
    act();
    seen();
    walk();
    count();
    reached();
    Check.end();
  }

  private static void aNewObject() {
    Script.play("Promise 1: No CELLS", """
        count 0 = 0; lead 0 0 0 0 ! -1; keep 0 1 0 ! -1; start 1 ! -2; cell 0 0 = 0; count 0 = 1
        """);
    Script.play("Promise 1: there was no start", """
        count 1 ! -2; seen 0 ! -2; act 0 ! -2; sheets ! -2; known ! -2; fits ! -2; reached ! -2; keep 0 3 0 ! -1
        cell 0 0; count 1 ! -2; seen 0 ! -2; act 0 ! -2; sheets ! -2; known ! -2; fits ! -2; reached ! -2
        keep 0 3 0 ! -1; start 1; count 1 = 0; seen 0 = 0; act 0 = 1; sheets = 1; known = 0; fits = 1; reached = 1
        keep 0 3 0 = 0
        """);
  }

  private static void cell() {
    Script.play("Promise 2: its number. -1", """
        cell -1 1 ! -1; cell 4 1 ! -1; cell 0 1 = 0; cell 3 1 = 1; cell -1 0 ! -1; cell 4 0 ! -1; cell min 0 ! -1
        cell max 0 ! -1; count 0 = 2
        """);
    Script.play("Promise 2: -2: there are 10", """
        8x cell 1 0; count 0 = 8; cell 1 0 = 8; cell 1 0 = 9; count 0 = 10; cell 1 0 ! -2; cell 0 1 ! -2; cell 3 0 ! -2
        count 0 = 10; cell 4 0 ! -1; start 2; cell 1 0 ! -2
        """);
    Script.play("Promise 2: with a PLATE or not", """
        cell 0 0; cell 0 1; lead 0 0 1 1; start 1; act 4; count 3 = 0; act 0; act 4; count 3 = 1
        """);
    Script.play("Promise 2: behind a start", """
        cell 0 0; start 2; cell 1 1 = 1; count 0 = 2; lead 0 0 1 1 = 0; act 0 = 0; seen 0 = 1; act 4; count 3 = 1
        """);
  }

  private static void lead() {
    Script.play("Promise 3: LEAD i of a CELL: -1", """
        lead 0 0 1 0 ! -1; cell 0 0; lead 0 0 1 0 = 0; lead 1 0 1 0 ! -1; lead -1 0 1 0 ! -1; lead 0 -1 1 0 ! -1
        lead 0 3 1 0 = 0; lead 0 4 1 0 ! -1
        """);
    for (int kind = 1; kind <= 5; kind++) {
      Script.play("Promise 3: to a CELL", """
          cell 0 0; cell 0 0; lead 0 0 $1 -1 ! -1; lead 0 0 $1 2 ! -1; lead 0 0 $1 max ! -1; lead 0 0 $1 min ! -1
          lead 0 0 $1 0 = 0; lead 0 0 $1 1 = $1; lead 0 0 $1 2 ! -1; keep 0 1 0; toss 0 = 1
          cell 0 0; lead 0 0 $1 2 = $1; keep 0 1 0; toss 0 = 2
          """, kind);
    }
    Script.play("Promise 3: (of WALL any)", """
        cell 0 0; lead 0 0 1 0 = 0; lead 0 0 0 -1 = 1; lead 0 0 0 1 = 0; lead 0 0 0 10 = 0; lead 0 0 0 min = 0
        lead 0 0 0 max = 0; lead 1 0 0 0 ! -1; lead 0 4 0 0 ! -1; start 1; act 0 = 1; keep 0 1 0; weight 0 = 1
        toss 0 ! -15; lead 0 0 1 0 = 0
        """);
    Script.play("Promise 3: has a KIND: the KIND before", """
        cell 0 0; lead 0 0 -1 0 ! -1; lead 0 0 6 0 ! -1; lead 0 0 5 0 = 0; lead 0 0 4 0 = 5; lead 0 0 3 0 = 4
        lead 0 0 2 0 = 3; lead 0 0 1 0 = 2; lead 0 0 0 0 = 1; lead 0 0 0 0 = 0; lead 0 1 1 0 = 0; lead 0 0 -1 0 ! -1
        lead 0 0 6 0 ! -1
        """);
    Script.play("Promise 3: of that CELL and that LEAD alone", """
        cell 0 0; cell 0 0; lead 0 1 3 1 = 0; lead 0 0 1 0 = 0; lead 0 2 1 0 = 0; lead 1 1 1 0 = 0; lead 0 1 1 0 = 3
        """);
  }

  private static void start() {
    Script.play("Promise 4: TO START with M: 0. -1", """
        cell 0 0; start 0 ! -1; start 7 ! -1; start -1 ! -1; start min ! -1; start max ! -1; start 1 = 0; start 6 = 0
        start 0 ! -1; start 7 ! -1
        """);
    Script.play("Promise 4: -2: there are no CELLS", "start 1 ! -2; start 6 ! -2; start 0 ! -1; cell 0 0; start 1 = 0");
    Script.play("Promise 4: a refused one leaves M", """
        cell 0 0; cell 1 0; cell 2 0; lead 0 0 1 1; lead 1 0 1 2; start 2; act 0; sheets = 1; start 7 ! -1; act 0
        sheets = 0; start 3; act 0; start 0 ! -1; act 0; sheets = 1
        """);
  }

  private static void act() {
    Script.play("Promise 5: An ACT (0 .. 5): 1 if it BUMPED, else 0. -1", """
        cell 0 0; lead 0 0 1 0; start 1; act 0 = 0; act 1 = 1; act 3 = 1; act 4 = 0; act 5 = 0; act 6 ! -1; act -1 ! -1
        act min ! -1; act max ! -1; count 4 = 5
        """);
    Script.play("Promise 5: -2: there was no start", """
        act 0 ! -2; act 5 ! -2; act 6 ! -1; cell 0 0; act 0 ! -2; act 5 ! -2; start 1; act 0 = 1
        """);
    Script.play("Promise 5: -3: THE WALK has 200", """
        cell 0 0; lead 0 0 4 0; start 1; 198x act 1; act 0 = 0; count 4 = 199; count 2 = 1; act 3 = 0; count 4 = 200
        count 2 = 2; act 0 ! -3; act 2 ! -3; act 4 ! -3; act 5 ! -3; act 6 ! -1; count 4 = 200; count 2 = 2
        seen 3 = 1; walk 199 0 = 3; walk 200 0 ! -1; start 1; act 0 = 0; count 4 = 1
        """);
  }

  private static void seen() {
    Script.play("Promise 6: -1; -2: there was no start", """
        seen -1 ! -1; seen 0 ! -2; seen 3 ! -2; seen 4 ! -1; cell 2 0; seen -1 ! -1; seen 0 ! -2; seen 3 ! -2
        seen 4 ! -1; start 1; seen -1 ! -1; seen 0 = 2; seen 1 = 0; seen 2 = 0; seen 3 = 1; seen 4 ! -1; seen min ! -1
        seen max ! -1
        """);
    Script.play("Promise 6: whether the latest ACT BUMPED", """
        cell 0 0; lead 0 0 1 0; start 1; act 1; seen 2 = 1; act 0; seen 2 = 0; act 1; act 4; seen 2 = 0; act 1
        act 6 ! -1; seen 2 = 1; act 5; seen 2 = 0; act 1; start 1; seen 2 = 0
        """);
    Script.play("Promise 6: whether the PEBBLE lies there, whether the walker has it", """
        cell 0 0; cell 0 0; lead 0 0 1 1; start 1; act 5; seen 1 = 1; seen 3 = 0; act 0; seen 1 = 0; seen 3 = 0
        """);
  }

  private static void walk() {
    Script.play("Promise 7: Of ACT i of THE WALK, from 0", """
        walk 0 0 ! -1; cell 1 0; cell 2 0; lead 0 0 1 1; walk 0 0 ! -1; start 2; walk 0 0 ! -1; act 3; walk 0 0 = 3
        walk 1 0 ! -1; act 5; act 0; walk 0 1 = 1; walk 0 2 = 1; walk 0 3 = 0; walk 1 0 = 5; walk 1 1 = 0
        walk 1 2 = 1; walk 1 3 = 1; walk 2 0 = 0; walk 2 1 = 0; walk 2 2 = 2; walk 2 3 = 0; walk 3 0 ! -1
        walk -1 0 ! -1; walk min 0 ! -1; walk max 0 ! -1; walk 0 -1 ! -1; walk 0 4 ! -1; walk 2 -1 ! -1; walk 2 4 ! -1
        walk 3 4 ! -1; start 2; walk 0 0 ! -1; act 4; walk 0 0 = 4; walk 1 0 ! -1
        """);
    Script.play("Promise 7: the whole of THE WALK", """
        cell 0 0; start 1; act 3; 198x act 4; walk 198 0 = 4; walk 199 0 ! -1; act 2; walk 0 0 = 3; walk 199 0 = 2
        walk 199 1 = 1; walk 200 0 ! -1
        """);
  }

  private static void count() {
    Script.play("Promise 21: -1 for others; -2 (of 1 to 5): there was no start", """
        count -1 ! -1; count 0 = 0; count 1 ! -2; count 2 ! -2; count 3 ! -2; count 4 ! -2; count 5 ! -2; count 6 ! -1
        cell 0 1; count 0 = 1; count 1 ! -2; count 5 ! -2; start 1; count -1 ! -1; count 0 = 1; count 1 = 0; count 2 = 0
        count 3 = 0; count 4 = 0; count 5 = -2; count 6 ! -1; count min ! -1; count max ! -1
        """);
    Script.play("Promise 21: the CELL of the PEBBLE (5; -2: it is with the walker)", """
        cell 0 0; cell 0 0; lead 0 0 1 1; start 1; count 5 = -2; act 5; count 5 = 0; act 0; count 5 = 0; count 1 = 1
        start 1; count 5 = -2; act 0; act 5; count 5 = 1; act 5; count 5 = -2
        """);
  }

  private static void reached() {
    Script.play("Promise 22: -2", "reached ! -2; cell 0 0; reached ! -2; start 1; reached = 1");
    StringBuilder full = new StringBuilder();
    for (int i = 0; i < 10; i++) {
      full.append("cell 0 1; ");
    }
    for (int i = 0; i < 10; i++) {
      full.append("lead ").append(i).append(" 0 1 ").append((i + 1) % 10).append("; ");
    }
    // A ring of ten PLATES is 20 ways to stand; with one TURN on it all 80; cut open, it goes on to its end alone.
    Script.play("Promise 22: CELL, TURN, SWITCH: from one to all", full + """
        start 1; reached = 20; lead 9 1 4 9; reached = 80; lead 9 1 0 0; reached = 20; lead 9 0 0 0; reached = 20
        act 0; reached = 18
        """);
    Script.play("Promise 22: from where it is", """
        cell 0 0; cell 0 1; cell 0 0; lead 0 0 1 1; lead 1 1 5 2; lead 2 2 2 0; start 1; reached = 4; act 0; reached = 3
        act 4; reached = 3; act 1; reached = 1
        """);
    Script.play("Promise 22: TURNS", """
        cell 0 0; lead 0 0 4 0; start 1; reached = 4; act 0; reached = 4; lead 0 0 1 0; reached = 1
        """);
  }
}
