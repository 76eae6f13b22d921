import java.util.ArrayList;
import java.util.List;

/**
 * Runs of calls on a new object, told as text. Calls stand on lines or between semicolons: "cell 0 1" is
 * cell(0, true), "3x act 0" is that call three times, "acts 015" are three ACTS. Behind " = " stands the answer that is
 * due, behind " ! " that of a call which is refused and so must change nothing, which Probe looks into. IAE and ISE are
 * the exceptions of element().
 */
final class Script {
  /** What an object is used for at most; later answers are free, so no test may lean on them. */
  static final int MOST_CALLS = 512;

  private record Line(Call call, boolean refused, Long due) { }

  private Script() { }

  /**
   * The sentence of the document that is held is told with each answer that isn't due. The values stand in the text as
   * $1, $2 ..
   */
  static void play(String sentence, String text, int... values) {
    RoomMapper x = new RoomMapper();
    List<Call> done = new ArrayList<>();
    int calls = 0;
    for (Line line : lines(filled(text, values))) {
      long got = line.call.on(x);
      calls++;
      if (line.due != null) {
        Check.due(sentence + " | call " + calls + ": " + line.call, got, line.due);
      }
      if (line.refused) {
        Probe.unchanged(sentence, done, line.call);
      } else {
        done.add(line.call);
      }
    }
    limit(calls);
  }

  static void limit(int calls) {
    if (calls > MOST_CALLS) {
      throw new IllegalStateException("a test uses an object for " + calls + " calls");
    }
  }

  private static String filled(String text, int... values) {
    String full = text;
    for (int i = 0; i < values.length; i++) {
      full = full.replace("$" + (i + 1), "" + values[i]);
    }
    return full;
  }

  private static List<Line> lines(String text) {
    List<Line> lines = new ArrayList<>();
    for (String piece : text.split("[;\n]")) {
      String told = piece.trim();
      if (told.matches("acts [0-9]+")) {
        for (char act : told.substring(5).toCharArray()) {
          lines.add(new Line(new Call("act", act - '0'), false, null));
        }
      } else if (!told.isEmpty()) {
        add(lines, told);
      }
    }
    return lines;
  }

  private static void add(List<Line> lines, String told) {
    String[] sides = told.split(" [=!] ");
    int times = 1;
    String call = sides[0];
    if (Character.isDigit(call.charAt(0))) {
      times = Integer.parseInt(call.substring(0, call.indexOf('x')));
      call = call.substring(call.indexOf('x') + 1);
    }
    Line line = new Line(Call.of(call), told.contains(" ! "), sides.length < 2 ? null : answer(sides[1].trim()));
    for (int i = 0; i < times; i++) {
      lines.add(line);
    }
  }

  private static Long answer(String word) {
    if (word.equals("IAE")) {
      return Check.NO_SHELF;
    }
    return word.equals("ISE") ? Check.NO_ELEMENT : Long.valueOf(word);
  }
}
