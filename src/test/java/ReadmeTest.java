import java.lang.reflect.InvocationTargetException;
import java.lang.reflect.Method;
import java.nio.file.Files;
import java.nio.file.Path;
import java.util.List;
import java.util.regex.Matcher;
import java.util.regex.Pattern;

/** The calls that README.md shows answer what it says, and it names every method of the face. */
public final class ReadmeTest {
  private static final Pattern CALL = Pattern.compile(
      "b\\.(\\w+)\\(([^)]*)\\); +// (\"[^\"]*\"|[-\\w.]+).*");

  private ReadmeTest() {
  }

  public static void main(String[] args) throws Exception {
    Checks checks = new Checks();
    checks.about("README.md");
    // .ci/run starts each test in the checkout's own directory.
    List<String> lines = Files.readAllLines(Path.of("README.md"));
    checkCalls(checks, lines);
    checkNames(checks, lines);
    checks.end();
  }

  private static void checkCalls(Checks checks, List<String> lines) throws Exception {
    Brookmill b = new Brookmill();
    int made = 0;
    for (String line : lines) {
      if (line.startsWith("b.")) {
        Matcher call = CALL.matcher(line);
        checks.same(true, call.matches(), line + " is a call with its answer");
        if (call.matches()) {
          checks.same(call.group(3), shown(b, call.group(1), call.group(2)), line);
          made++;
        }
      }
    }
    checks.same(true, made > 0, "a call is shown");
  }

  /** The answer as README.md writes it. */
  private static String shown(Brookmill b, String name, String written) throws Exception {
    for (Method method : Brookmill.class.getDeclaredMethods()) {
      if (method.getName().equals(name)) {
        try {
          Object got = method.invoke(b, numbers(written));
          return got instanceof String ? "\"" + got + "\"" : String.valueOf(got);
        } catch (InvocationTargetException e) {
          return "throws." + e.getCause().getClass().getSimpleName();
        }
      }
    }
    return "no such method";
  }

  private static Object[] numbers(String written) {
    if (written.isEmpty()) {
      return new Object[0];
    }
    String[] each = written.split(", ");
    Object[] all = new Object[each.length];
    for (int i = 0; i < each.length; i++) {
      all[i] = Integer.valueOf(each[i]);
    }
    return all;
  }

  private static void checkNames(Checks checks, List<String> lines) {
    StringBuilder tables = new StringBuilder();
    for (String line : lines) {
      tables.append(line.startsWith("|") ? line : "");
    }
    for (Method method : Brookmill.class.getMethods()) {
      if (method.getDeclaringClass() == Brookmill.class) {
        checks.same(true, tables.indexOf("`" + method.getName() + "`") >= 0,
            method.getName() + " is named in the table");
      }
    }
  }
}
