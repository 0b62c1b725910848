import java.lang.reflect.Constructor;
import java.lang.reflect.Field;
import java.lang.reflect.Method;
import java.lang.reflect.Modifier;
import java.nio.file.Files;
import java.nio.file.Path;
import java.util.ArrayList;
import java.util.Arrays;
import java.util.List;
import java.util.Set;
import java.util.TreeSet;

/** The face is the document's, and the file stays within the rules that a text search can see. */
public final class FaceTest {
  // A throws IllegalArgumentException, B IndexOutOfBoundsException.
  private static final String[] FACE = {
    "about()int", "apart(int)int A", "between(int,int)int BA", "circle(int)int A",
    "cut(int)int A", "digest()long", "empty()int", "end(boolean)int", "ends(int,int)int BA",
    "fill(int)int A", "flowText(int)String B", "house(int)int A", "isLeast(int)boolean A",
    "isMost()boolean", "isSound()boolean", "knock()int", "layer(int)int B", "least()int",
    "leasts()int", "most(int)int A", "nthLeast(int)int A", "ofPlace(int,int)int BA",
    "pair(int,int,int)int BA", "parts(boolean)int", "partsText()String", "peel()int",
    "places(int)int A", "room(int,int,int)int BA", "roomText(int)String B",
    "round(int,int,int,int)int BA", "send(int,int)int BA", "step(int)int A", "strew(int)int A",
    "swap(int,int)int B", "through(int)int A", "told(int)int A", "track(int)String A",
    "turnRound()int", "value()int", "widen(int,int,int)int BA", "would(int,int,int)int BA",
  };

  // What the language's rules shut out and no plain word of this program contains.
  private static final String[] SHUT_OUT = {
    "import ", "catch", "try ", "finally", "->", "::", "synchronized", "assert", "System.",
    "Integer.", "Exact(", "double", "float", "goto", "Random", "Thread", "native", "while (true)",
    "for (;;)", "equals(", "hashCode", "toString() {",
  };

  private FaceTest() {
  }

  public static void main(String[] args) throws Exception {
    Checks checks = new Checks();
    checks.about("the face");
    checkMembers(checks);
    checks.about("the file");
    checkText(checks, Files.readAllLines(Path.of(args[0])));
    checks.end();
  }

  private static void checkMembers(Checks checks) {
    Class<?> all = Brookmill.class;
    checks.same(Modifier.PUBLIC | Modifier.FINAL, all.getModifiers(), "the class's modifiers");
    Set<String> open = new TreeSet<>();
    Set<String> hidden = new TreeSet<>();
    for (Method method : all.getDeclaredMethods()) {
      boolean isPrivate = Modifier.isPrivate(method.getModifiers());
      (isPrivate ? hidden : open).add(isPrivate ? method.getName() : told(method));
      checks.same(isPrivate || method.getModifiers() == Modifier.PUBLIC, true, told(method));
    }
    checks.same(new TreeSet<>(Arrays.asList(FACE)), open, "the methods that are not private");
    checks.same(41, open.size(), "the number of methods");
    for (Class<?> inner : all.getDeclaredClasses()) {
      checks.same(true, Modifier.isStatic(inner.getModifiers()), inner + " is static");
      for (Method method : inner.getDeclaredMethods()) {
        hidden.add(method.getName());
      }
    }
    for (String shown : open) {
      String name = shown.substring(0, shown.indexOf('('));
      checks.same(false, hidden.contains(name), "a second method " + name);
    }
    for (Field field : all.getDeclaredFields()) {
      checks.same(true, Modifier.isPrivate(field.getModifiers()), field + " is private");
    }
    Constructor<?>[] makers = all.getDeclaredConstructors();
    checks.same(1, makers.length, "the number of constructors");
    checks.same(0, makers[0].getParameterCount(), "the constructor's parameters");
  }

  private static String told(Method method) {
    List<String> kinds = new ArrayList<>();
    for (Class<?> kind : method.getParameterTypes()) {
      kinds.add(kind.getSimpleName());
    }
    StringBuilder thrown = new StringBuilder();
    for (Class<?> kind : method.getExceptionTypes()) {
      thrown.append(kind == IndexOutOfBoundsException.class ? "B" : "");
      thrown.append(kind == IllegalArgumentException.class ? "A" : "");
    }
    return (method.getName() + "(" + String.join(",", kinds) + ")"
        + method.getReturnType().getSimpleName() + " " + thrown).trim();
  }

  private static void checkText(Checks checks, List<String> lines) {
    for (int i = 0; i < lines.size(); i++) {
      String line = lines.get(i);
      String where = "line " + (i + 1);
      checks.same(true, line.chars().allMatch(c -> c >= 32 && c < 127), where + " has plain signs");
      for (String word : SHUT_OUT) {
        checks.same(false, line.contains(word), where + " has " + word);
      }
    }
  }
}
