import java.io.IOException;
import java.lang.reflect.InvocationTargetException;
import java.lang.reflect.Method;
import java.lang.reflect.Modifier;
import java.nio.file.Files;
import java.nio.file.Path;
import java.util.ArrayList;
import java.util.List;
import java.util.Set;
import java.util.TreeSet;
import java.util.regex.Matcher;
import java.util.regex.Pattern;
import java.util.stream.Stream;

/**
 * README.md holds: each call that it shows answers as the comment behind it says, it shows every call of the face, and
 * it names .ci/run as the way to run the tests, and every test that there is. It looks for them where .ci/run runs it.
 */
public final class ReadmeTest {
  private static final Path README = Path.of("README.md");
  private static final Path SCRIPT = Path.of(".ci/run");
  private static final Path TESTS = Path.of("src/test/java");

  private static final String NEW = "RoomMapper x = new RoomMapper();";
  /** As "x.cell(0, true);  // 0: what that means". */
  private static final Pattern CALL =
      Pattern.compile("x\\.(\\w+)\\(([^()]*)\\); +// (-?\\d+|throws \\w+)(: \\S.*)?");

  public static void main(String[] args) throws IOException {
    List<String> lines = Files.readAllLines(README);
    examples(lines);
    wayToRun(lines);
    testsNamed(String.join("\n", lines));
    Check.end();
  }

  /** The lines of all blocks of one language, each block with an empty line behind it. */
  private static List<String> blocks(List<String> lines, String language) {
    List<String> found = new ArrayList<>();
    boolean inside = false;
    boolean wanted = false;
    for (String line : lines) {
      if (line.startsWith("```")) {
        if (inside && wanted) {
          found.add("");
        }
        inside = !inside;
        wanted = line.equals("```" + language);
      } else if (inside && wanted) {
        found.add(line);
      }
    }
    return found;
  }

  private static void examples(List<String> lines) {
    Set<String> shown = new TreeSet<>();
    RoomMapper x = null;
    int calls = 0;
    for (String line : blocks(lines, "java")) {
      Matcher told = CALL.matcher(line);
      if (line.equals(NEW)) {
        x = new RoomMapper();
        calls = 0;
      } else if (line.isEmpty()) {
        x = null;
      } else if (x != null && told.matches()) {
        calls++;
        Script.limit(calls);
        shown.add(told.group(1));
        isDue("README.md: " + line, answer(x, told.group(1), told.group(2)), told.group(3));
      } else {
        isDue("README.md: " + line, "no call with an answer behind it", "one");
      }
    }
    isDue("the calls that README.md shows", shown.toString(), face().toString());
  }

  private static Set<String> face() {
    Set<String> names = new TreeSet<>();
    for (Method method : RoomMapper.class.getDeclaredMethods()) {
      if (Modifier.isPublic(method.getModifiers())) {
        names.add(method.getName());
      }
    }
    return names;
  }

  private static String answer(RoomMapper x, String name, String arguments) {
    String[] words = arguments.isEmpty() ? new String[0] : arguments.split(", ");
    for (Method method : RoomMapper.class.getMethods()) {
      if (method.getName().equals(name) && method.getParameterCount() == words.length) {
        return answer(x, method, words);
      }
    }
    return "no such call";
  }

  private static String answer(RoomMapper x, Method method, String... words) {
    Object[] values = new Object[words.length];
    for (int i = 0; i < words.length; i++) {
      boolean truth = words[i].equals("true") || words[i].equals("false");
      if (truth != (method.getParameterTypes()[i] == boolean.class)) {
        return "no such call";
      }
      // Numbers as Java reads them: 077761 is to the base 8.
      values[i] = truth ? (Object) Boolean.valueOf(words[i]) : Integer.decode(words[i]);
    }
    try {
      return method.invoke(x, values).toString();
    } catch (InvocationTargetException e) {
      return "throws " + e.getCause().getClass().getSimpleName();
    } catch (IllegalAccessException e) {
      return "can't be called";
    }
  }

  private static void wayToRun(List<String> lines) {
    List<String> want = List.of(SCRIPT.toString(), "");
    isDue("the commands that README.md names", blocks(lines, "sh").toString(), want.toString());
    Check.due(SCRIPT + " can be run", Files.isExecutable(SCRIPT) ? 1 : 0, 1);
  }

  private static void testsNamed(String readme) throws IOException {
    Set<String> there = new TreeSet<>();
    try (Stream<Path> files = Files.list(TESTS)) {
      files.map(file -> file.getFileName().toString()).filter(name -> name.endsWith("Test.java"))
          .forEach(name -> there.add(name.substring(0, name.length() - ".java".length())));
    }
    Set<String> named = new TreeSet<>();
    Matcher name = Pattern.compile("`(\\w+Test)`").matcher(readme);
    while (name.find()) {
      named.add(name.group(1));
    }
    isDue("the tests that README.md names", named.toString(), there.toString());
  }

  private static void isDue(String what, String got, String want) {
    boolean alike = got.equals(want);
    Check.due(alike ? what : what + " [" + got + ", due is " + want + "]", alike ? 1 : 0, 1);
  }
}
