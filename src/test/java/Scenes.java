/** Beginnings of Script runs; those with a HAND have all told that can be, so that a refused call has much to harm. */
final class Scenes {
  /** Three SIGNS, two PLATES, LEADS of all KINDS; a ring of SLIDES as LEAD 3. */
  static final String HOUSE = """
      cell 0 1; cell 1 0; cell 2 1; cell 0 0
      lead 0 0 1 1; lead 0 1 2 2; lead 0 2 4 0; lead 0 3 3 3
      lead 1 0 5 2; lead 1 1 1 0; lead 1 3 3 0; lead 2 0 4 0; lead 2 2 1 2; lead 3 0 1 0; lead 3 3 3 1
      """;

  /** THE HAND's map shows this HOUSE from the start for two ACTS and more: PLACE 5 is CELL 0 with THE SWITCH on. */
  static final String HAND = """
      hand 0 0 o53261; hand 1 1 o64606; hand 2 0 o21126; hand 3 1 o64606; hand 4 0 o63160; hand 5 0 o03271
      """;

  /** A WAY, a DOOR, a WALL and ROWS of both kinds; SHELVES 4 to 7 hold nothing. */
  static final String SHELVES = "keep 0 1 0; keep 1 1 1; keep 2 1 6; make 3 3 3\n";

  static final String NOT_STARTED = HOUSE + HAND + SHELVES;
  static final String BEGUN = NOT_STARTED + "start 4\n";

  /** Fourteen SHEETS, a way of three ACTS, TURNED by one, THE SWITCH on, the PEBBLE left behind, and ROWS of them. */
  static final String WALKED = BEGUN + "acts 05100150124\ngo 11 3\nkeep 4 3 0; keep 5 4 11; copy 4 1 3 0 2\n";

  static final String NO_SHEETS = NOT_STARTED + "start 1; acts 0510\nkeep 4 3 0\n";
  static final String SPENT = NOT_STARTED + "start 6; acts 412421424\nkeep 4 3 0\n";
  static final String FULL_WALK = NOT_STARTED + "start 4; acts 0510\n196x act 5\nkeep 4 3 0; keep 5 4 0\n";
  static final String TEN_CELLS = HOUSE + "cell 3 1; cell 3 0; cell 3 1; cell 3 0; cell 3 1; cell 3 0\nlead 9 3 4 9\n"
      + HAND + SHELVES + "start 6; acts 05100\n";

  /** Two CELLS of unlike SIGNS, there and back by ACT 0. */
  static final String TWO_CELLS = "cell 0 0; cell 1 0; lead 0 0 1 1; lead 1 0 1 0; ";

  /** Behind ACT 0 the walker is at PLACE 0 again, where it is known, or at a new one, of which nothing is. */
  static final String TWO_SHEETS = "cell 0 0; cell 0 0; lead 0 0 1 1; start 2; act 0; sheets = 2; ";

  /** One CELL that leads to itself by all ACTS: 2, 5, 15, 52 SHEETS, and then 203. */
  static final String LOOPS_SPENT = """
      cell 0 0; lead 0 0 1 0; lead 0 1 1 0; lead 0 2 1 0; lead 0 3 1 0; start 6; acts 01234
      """;

  private Scenes() { }
}
