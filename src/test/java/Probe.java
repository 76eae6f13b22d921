import java.util.ArrayList;
import java.util.List;

/**
 * Whether a call changed anything: two objects are brought to the same state, one of them gets the call as well, and
 * then both must answer all alike. One object is used for 512 calls at most, so this is done once for each of a number
 * of rows of calls, which together tell all that can be told: what there is now, and what comes of more ACTS and of a
 * start.
 */
final class Probe {
  private static final List<List<Call>> ROWS = List.of(looks(), walk(0), walk(1), walk(2), walk(3), sheets(0, 1, 2, 3),
      sheets(4, 5, 148, 149), house(), actsOn(), startsAnew(), walksOfTheHand(), rows(0), rows(4));

  /** What the untouched object of the latest state answered, since many calls are tried in one state. */
  private static List<Call> latest = null;
  private static List<List<Long>> untouched = null;

  private Probe() { }

  static void unchanged(String sentence, List<Call> done, Call refused) {
    if (!done.equals(latest)) {
      latest = new ArrayList<>(done);
      untouched = new ArrayList<>();
      for (List<Call> row : ROWS) {
        untouched.add(answers(done, null, row));
      }
    }
    for (int r = 0; r < ROWS.size(); r++) {
      List<Long> touched = answers(done, refused, ROWS.get(r));
      int i = 0;
      while (i < touched.size() - 1 && touched.get(i).equals(untouched.get(r).get(i))) {
        i++;
      }
      Check.due(sentence + " | behind the refused " + refused + ": " + ROWS.get(r).get(i), touched.get(i),
          untouched.get(r).get(i));
    }
  }

  private static List<Long> answers(List<Call> done, Call refused, List<Call> row) {
    RoomMapper x = new RoomMapper();
    for (Call call : done) {
      call.on(x);
    }
    if (refused != null) {
      refused.on(x);
    }
    List<Long> answers = new ArrayList<>();
    for (Call call : row) {
      answers.add(call.on(x));
    }
    Script.limit(done.size() + 1 + row.size());
    return answers;
  }

  /** Calls of one name with 0 .. n - 1 as their last argument. */
  private static void each(List<Call> row, int n, String name, int... first) {
    for (int i = 0; i < n; i++) {
      int[] args = java.util.Arrays.copyOf(first, first.length + 1);
      args[first.length] = i;
      row.add(new Call(name, args));
    }
  }

  private static void add(List<Call> row, String... calls) {
    for (String call : calls) {
      row.add(Call.of(call));
    }
  }

  private static List<Call> looks() {
    List<Call> row = new ArrayList<>();
    each(row, 6, "way");
    each(row, 6, "count");
    each(row, 4, "seen");
    add(row, "sheets", "known", "reached", "fits", "one 0 1", "one 1 2", "one 0 3", "one 2 3", "one 0 200");
    add(row, "next 1", "next 2", "next 3", "part 2 7", "part 3 38", "part 6 0");
    each(row, 5, "part", 1);
    each(row, 8, "weight");
    each(row, 8, "toss");
    for (int place = 0; place < 6; place++) {
      row.add(new Call("go", 0, place));
      each(row, 5, "way");
    }
    return row;
  }

  private static List<Call> walk(int what) {
    List<Call> row = new ArrayList<>();
    for (int i = 0; i <= 200; i++) {
      row.add(new Call("walk", i, what));
    }
    return row;
  }

  private static List<Call> sheets(int... numbers) {
    List<Call> row = new ArrayList<>();
    for (int k : numbers) {
      each(row, 4, "sheet", k);
      row.add(new Call("isTrue", k));
      each(row, 6, "sign", k);
      for (int place = 0; place < 6; place++) {
        each(row, 5, "leads", k, place);
      }
    }
    return row;
  }

  private static List<Call> house() {
    List<Call> row = new ArrayList<>();
    for (int k = 0; k < 40; k++) {
      row.add(new Call("keep", 0, 1, k));
      add(row, "weight 0", "toss 0");
    }
    for (int k = 0; k < 40; k++) {
      row.add(new Call("lead", k / 4, k % 4, 0, 0));
    }
    add(row, "cell 0 0");
    return row;
  }

  private static List<Call> actsOn() {
    List<Call> row = new ArrayList<>();
    for (int act : new int[] {0, 4, 0, 1, 5, 2, 3, 4, 0, 5, 1, 2, 3, 5, 0, 4, 1, 0, 2, 5, 3, 4}) {
      row.add(new Call("act", act));
      add(row, "sheets", "count 1", "count 2", "count 3", "count 5");
      each(row, 4, "seen");
    }
    return row;
  }

  private static List<Call> startsAnew() {
    List<Call> row = new ArrayList<>();
    add(row, "start 6");
    row.addAll(actsOn());
    return row;
  }

  /** THE HAND's map is told by fits() alone, so all short walks are held against it. */
  private static List<Call> walksOfTheHand() {
    List<Call> row = new ArrayList<>();
    for (int first = 0; first < 5; first++) {
      for (int second = 0; second < 5; second++) {
        add(row, "start 6", "act " + first, "act " + second, "fits");
        add(row, "act " + (first + second) % 5, "act " + second, "fits");
      }
    }
    return row;
  }

  private static List<Call> rows(int firstShelf) {
    List<Call> row = new ArrayList<>();
    for (int d = firstShelf; d < firstShelf + 4; d++) {
      each(row, 61, "element", d);
    }
    return row;
  }
}
