import java.io.IOException;
import java.lang.management.ManagementFactory;
import java.lang.reflect.Constructor;
import java.lang.reflect.Field;
import java.lang.reflect.Method;
import java.lang.reflect.Modifier;
import java.nio.file.Files;
import java.nio.file.Path;
import java.util.List;
import java.util.Set;
import java.util.TreeSet;
import java.util.regex.Matcher;
import java.util.regex.Pattern;

/** The rules of LANGUAGE.md that can be looked at from outside: the face, words, sizes, and what calls make. */
public final class LanguageTest {
  private static final Due due = new Due("LanguageTest");

  public static void main(String[] args) throws IOException {
    face();
    classes();
    words(Files.readString(Path.of("src/main/java/HeldTillSet.java")));
    lengths(Files.readAllLines(Path.of("src/main/java/HeldTillSet.java")));
    room();
    due.end();
  }

  private static void face() {
    Set<String> want = new TreeSet<>(List.of(("joint/2 joints/3 mend/3 of/2 feed/1 law/0 sets/1 order/3 done/2 can/1 soonest/1 "
        + "need/2 glue/2 worth/1 inWay/1 dry/0 atOnce/1 wrong/2 round/2 judge/1 which/2 who/1 byHand/2 drawn/4 fit/1 stay/1 "
        + "test/1 chair/0 led/1 image/0 back/0 undo/0 redo/0 body/1 act/3 trace/1 keep/2 row/3 put/3 element/2 shift/5 "
        + "taken/2 count/1").split(" ")));
    Set<String> names = new TreeSet<>();
    for (String name : want) {
      names.add(name.substring(0, name.indexOf('/')));
    }
    Set<String> got = new TreeSet<>();
    for (Method method : HeldTillSet.class.getDeclaredMethods()) {
      boolean isPublic = Modifier.isPublic(method.getModifiers());
      due.is("public or private: " + method, isPublic || Modifier.isPrivate(method.getModifiers()) ? 1 : 0, 1);
      if (isPublic) {
        got.add(method.getName() + "/" + method.getParameterCount());
      } else {
        due.is("a name of the face: " + method, names.contains(method.getName()) ? 1 : 0, 0);
      }
    }
    due.is("methods " + got, got.equals(want) ? 1 : 0, 1);
    Set<String> constants = new TreeSet<>();
    for (Field field : HeldTillSet.class.getDeclaredFields()) {
      if (!Modifier.isPrivate(field.getModifiers())) {
        constants.add(field.getName());
      }
    }
    due.is("constants", constants.equals(new TreeSet<>(List.of("BAD", "NOT", "FULL", "STATE", "VOID"))) ? 1 : 0, 1);
    Constructor<?>[] made = HeldTillSet.class.getDeclaredConstructors();
    due.is("constructors", made.length, 1);
    due.is("its parameters", made[0].getParameterCount(), 0);
  }

  private static void classes() {
    Class<?>[] inside = HeldTillSet.class.getDeclaredClasses();
    due.is("at most twelve classes", inside.length + 1 <= 12 ? 1 : 0, 1);
    look(HeldTillSet.class);
    for (Class<?> one : inside) {
      int modifiers = one.getModifiers();
      due.is("static: " + one, Modifier.isStatic(modifiers) ? 1 : 0, 1);
      due.is("not public: " + one, Modifier.isPublic(modifiers) || Modifier.isProtected(modifiers) ? 1 : 0, 0);
      look(one);
    }
  }

  private static void look(Class<?> one) {
    int fields = 0;
    for (Field field : one.getDeclaredFields()) {
      boolean isStatic = Modifier.isStatic(field.getModifiers());
      fields += isStatic ? 0 : 1;
      due.is("final: " + field, isStatic && !Modifier.isFinal(field.getModifiers()) ? 1 : 0, 0);
    }
    due.is("at most twenty fields: " + one, fields <= 20 ? 1 : 0, 1);
    for (Method method : one.getDeclaredMethods()) {
      due.is("at most seven parameters: " + method, method.getParameterCount() <= 7 ? 1 : 0, 1);
    }
  }

  private static void words(String source) {
    String code = source.replaceAll("(?s)/\\*.*?\\*/", " ").replaceAll("//[^\n]*", " ");
    String[] none = {"\\b(throw|try|catch|synchronized|assert|record|enum|interface|instanceof|hashCode|toString|new \\w+<)\\b",
      "->", "::", "\\bstatic\\s*\\{", "\\b(while|for)\\s*\\(\\s*(true|;)", "Exact\\b", "\\b(System\\.(?!arraycopy)|Object\\b)"};
    for (String pattern : none) {
      Matcher found = Pattern.compile(pattern).matcher(code);
      due.is(found.find() ? "found: " + found.group() : pattern, found.reset().find() ? 1 : 0, 0);
    }
    Matcher imports = Pattern.compile("import ([\\w.]+);").matcher(code);
    while (imports.find()) {
      due.is("import " + imports.group(1), imports.group(1).equals("java.util.Arrays") ? 1 : 0, 1);
    }
    for (int i = 0; i < source.length(); i++) {
      if (source.charAt(i) > 126) {
        due.is("a sign above 126 at " + i, source.charAt(i), 126);
      }
    }
  }

  /** A method begins and ends with the indentation of its class. */
  private static void lengths(List<String> lines) {
    int began = 0;
    for (int i = 0; i < lines.size(); i++) {
      String line = lines.get(i);
      if (line.matches("( {4}| {8})[\\w].*\\) \\{")) {
        began = i;
      } else if (line.matches(" {4}\\}| {8}\\}") && i - began >= 60) {
        boolean isClass = line.startsWith("    }");
        due.is("a long method at line " + (began + 1), isClass ? 0 : i - began, 0);
      }
    }
  }

  /** What one object and 512 of the dearest calls make, in bytes of this machine. */
  private static void room() {
    com.sun.management.ThreadMXBean threads = (com.sun.management.ThreadMXBean) ManagementFactory.getThreadMXBean();
    use(new HeldTillSet());
    long before = threads.getCurrentThreadAllocatedBytes();
    HeldTillSet x = new HeldTillSet();
    long made = threads.getCurrentThreadAllocatedBytes() - before;
    due.is("an object of " + made + " bytes", made < 20000 ? 1 : 0, 1);
    before = threads.getCurrentThreadAllocatedBytes();
    long sum = use(x);
    long used = threads.getCurrentThreadAllocatedBytes() - before;
    due.is("calls that make " + used + " bytes, sum " + sum, used < 4096 ? 1 : 0, 1);
  }

  private static long use(HeldTillSet x) {
    long sum = 0;
    for (int j = 0; j < 7; j++) {
      x.joint(1, 0);
      x.body(j);
      x.feed('k');
      x.feed(j < 6 ? '+' : 'n');
    }
    x.law();
    x.row(0, 0, 7);
    x.row(1, 1, 2);
    for (int i = 0; i < 7; i++) {
      x.put(0, i, i);
    }
    for (int i = 0; i < 20; i++) {
      sum += x.can(1) + x.soonest(0) + x.need(1, 0) + x.glue(0, 1) + x.worth(0) + x.inWay(0) + x.dry() + x.atOnce(-1);
      sum += x.wrong(0, 1) + x.round(0, 5) + x.judge(1) + x.which(1, 0) + x.who(1) + x.byHand(0, 1) + x.drawn(0, 1, 30, 0);
      sum += x.fit(i % 7) + x.image() + x.back() + x.mend(0, 8, i) + x.undo() + x.act(5, 3, i);
    }
    return sum;
  }
}
