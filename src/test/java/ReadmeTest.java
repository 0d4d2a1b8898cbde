import java.io.IOException;
import java.lang.reflect.Method;
import java.lang.reflect.Modifier;
import java.nio.file.DirectoryStream;
import java.nio.file.Files;
import java.nio.file.Path;
import java.util.List;
import java.util.Set;
import java.util.TreeSet;
import java.util.regex.Matcher;
import java.util.regex.Pattern;

/** README.md: its examples, one after the other on one object, answer as it says; it names every call and every test. */
public final class ReadmeTest {
  private static final Due due = new Due("ReadmeTest");
  private static final Pattern CALL = Pattern.compile("x\\.(\\w+)\\((.*?)\\);\\s*// (-?\\d+)(:.*)?");
  private static final Pattern IN_TABLE = Pattern.compile("`(\\w+)\\(([^)]*)\\)`");

  public static void main(String[] args) throws IOException, ReflectiveOperationException {
    List<String> lines = Files.readAllLines(Path.of("README.md"));
    examples(lines);
    calls(lines);
    refusals(String.join("\n", lines));
    tests(String.join("\n", lines));
    due.end();
  }

  private static void examples(List<String> lines) throws ReflectiveOperationException {
    HeldTillSet x = null;
    boolean isJava = false;
    Set<String> asked = new TreeSet<>();
    for (String line : lines) {
      if (line.startsWith("```")) {
        isJava = line.equals("```java");
      } else if (isJava && line.equals("HeldTillSet x = new HeldTillSet();")) {
        x = new HeldTillSet();
      } else if (isJava) {
        Matcher call = CALL.matcher(line);
        boolean isCall = call.matches() && x != null;
        due.is("an example of a call and its answer: " + line, isCall ? 1 : 0, 1);
        if (isCall) {
          due.is(line, answer(x, call.group(1), call.group(2)), Long.parseLong(call.group(3)));
          asked.add(call.group(1));
        }
      }
    }
    due.is("examples of many calls: " + asked, asked.size() >= 30 ? 1 : 0, 1);
  }

  private static long answer(HeldTillSet x, String name, String words) throws ReflectiveOperationException {
    Method method = face(name);
    String[] told = words.isEmpty() ? new String[0] : words.split(", ");
    if (method == null || method.getParameterCount() != told.length) {
      return Long.MAX_VALUE;
    }
    Object[] arguments = new Object[told.length];
    for (int i = 0; i < told.length; i++) {
      long value = told[i].startsWith("'") ? told[i].charAt(1) : Long.parseLong(told[i]);
      boolean isLong = method.getParameterTypes()[i] == long.class;
      arguments[i] = isLong ? (Object) Long.valueOf(value) : (Object) Integer.valueOf((int) value);
    }
    return ((Number) method.invoke(x, arguments)).longValue();
  }

  private static Method face(String name) {
    for (Method method : HeldTillSet.class.getDeclaredMethods()) {
      if (Modifier.isPublic(method.getModifiers()) && method.getName().equals(name)) {
        return method;
      }
    }
    return null;
  }

  /** Each call of the class stands in a table, with as many arguments as it takes, and no other does. */
  private static void calls(List<String> lines) {
    Set<String> told = new TreeSet<>();
    for (String line : lines) {
      int end = line.startsWith("| `") ? line.indexOf(" | ") : -1;
      Matcher call = IN_TABLE.matcher(end < 0 ? "" : line.substring(0, end));
      while (call.find()) {
        told.add(call.group(1) + "/" + (call.group(2).isEmpty() ? 0 : call.group(2).split(",").length));
      }
    }
    Set<String> want = new TreeSet<>();
    for (Method method : HeldTillSet.class.getDeclaredMethods()) {
      if (Modifier.isPublic(method.getModifiers())) {
        want.add(method.getName() + "/" + method.getParameterCount());
      }
    }
    due.is("calls told " + told + ", of the class " + want, told.equals(want) ? 1 : 0, 1);
  }

  private static void refusals(String page) {
    String[] rows = {"| `BAD` | " + HeldTillSet.BAD + " |", "| `NOT` | " + HeldTillSet.NOT + " |", "| `FULL` | " + HeldTillSet.FULL + " |",
      "| `STATE` | " + HeldTillSet.STATE + " |", "| | -11 |", "| | -12 |", "| | -13 |", "| | -14 |", "`VOID` (" + HeldTillSet.VOID + ")"};
    int last = -1;
    for (String row : rows) {
      int at = page.indexOf(row);
      due.is("a refusal, behind the one named ahead of it: " + row, at > last ? 1 : 0, 1);
      last = at;
    }
  }

  private static void tests(String page) throws IOException {
    try (DirectoryStream<Path> files = Files.newDirectoryStream(Path.of("src/test/java"), "*Test.java")) {
      for (Path file : files) {
        String name = file.getFileName().toString().replace(".java", "");
        due.is("a row for the test " + name, page.contains("| `" + name + "` |") ? 1 : 0, 1);
      }
    }
    due.is("how tests are run", page.contains("bash .ci/run") ? 1 : 0, 1);
  }
}
