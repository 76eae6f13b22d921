/** Counts and prints the calls of one test whose answer is not the one that is due. */
final class Check {
  private static int done = 0;
  private static int wrong = 0;

  private Check() { }

  static void due(String call, long got, long want) {
    done++;
    if (got != want) {
      wrong++;
      if (wrong <= 50) {
        System.out.println(call + " answered " + got + ", due is " + want);
      }
    }
  }

  /** What element() does, with 1,000,000,001 and 1,000,000,002 for the two exceptions that it may throw. */
  static long element(RoomMapper x, int d, int i) {
    try {
      return x.element(d, i);
    } catch (IllegalArgumentException e) {
      return NO_SHELF;
    } catch (IllegalStateException e) {
      return NO_ELEMENT;
    }
  }

  static final long NO_SHELF = 1_000_000_001L;
  static final long NO_ELEMENT = 1_000_000_002L;

  /** Does ACTS told as digits, and looks at none of the answers. */
  static void acts(RoomMapper x, String digits) {
    for (char c : digits.toCharArray()) {
      x.act(c - '0');
    }
  }

  /** CELLS without PLATES, with these SIGNS. */
  static RoomMapper cells(int... signs) {
    RoomMapper x = new RoomMapper();
    for (int sign : signs) {
      x.cell(sign, false);
    }
    return x;
  }

  /** As cells(), each with a WAY as LEAD 0 to the next one, the last to the first. */
  static RoomMapper ring(int... signs) {
    RoomMapper x = cells(signs);
    for (int i = 0; i < signs.length; i++) {
      x.lead(i, 0, 1, (i + 1) % signs.length);
    }
    return x;
  }

  static void end() {
    System.out.println((done - wrong) + " of " + done + " answers are as due");
    if (wrong != 0 || done == 0) {
      System.exit(1);
    }
  }
}
