import java.lang.reflect.Constructor;
import java.lang.reflect.Field;
import java.lang.reflect.Method;
import java.lang.reflect.Modifier;
import java.nio.file.Files;
import java.nio.file.Path;
import java.util.ArrayList;
import java.util.Arrays;
import java.util.List;
import java.util.Set;
import java.util.TreeSet;

/** The face is the document's, and the file stays within the rules that a text search can see. */
public final class FaceTest {
  private static final String[] FACE = {
    "about()int", "apart(int)int", "between(int,int)int", "circle(int)int", "cut(int)int",
    "digest()long", "empty()int", "end(boolean)int", "ends(int,int)int", "fill(int)int",
    "flowText(int)String", "house(int)int", "isLeast(int)boolean", "isMost()boolean",
    "isSound()boolean", "knock()int", "layer(int)int", "least()int", "leasts()int",
    "most(int)int", "nthLeast(int)int", "ofPlace(int,int)int", "pair(int,int,int)int",
    "parts(boolean)int", "partsText()String", "peel()int", "places(int)int",
    "room(int,int,int)int", "roomText(int)String", "round(int,int,int,int)int",
    "send(int,int)int", "step(int)int", "strew(int)int", "swap(int,int)int",
    "through(int)int", "told(int)int", "track(int)String", "turnRound()int", "value()int",
    "widen(int,int,int)int", "would(int,int,int)int",
  };

  // What the language's rules shut out and no plain word of this program contains.
  private static final String[] SHUT_OUT = {
    "import ", "catch", "try ", "finally", "->", "::", "synchronized", "assert", "System.",
    "Integer.", "Exact(", "double", "float", "goto", "Random", "Thread", "native", "while (true)",
    "for (;;)", "equals(", "hashCode", "toString() {",
  };

  private FaceTest() {
  }

  public static void main(String[] args) throws Exception {
    Checks checks = new Checks();
    checks.about("the face");
    checkMembers(checks);
    checks.about("the file");
    checkText(checks, Files.readAllLines(Path.of(args[0])));
    checks.end();
  }

  private static void checkMembers(Checks checks) {
    Class<?> all = Brookmill.class;
    checks.same(Modifier.PUBLIC | Modifier.FINAL, all.getModifiers(), "the class's modifiers");
    Set<String> open = new TreeSet<>();
    Set<String> hidden = new TreeSet<>();
    for (Method method : all.getDeclaredMethods()) {
      boolean isPrivate = Modifier.isPrivate(method.getModifiers());
      (isPrivate ? hidden : open).add(isPrivate ? method.getName() : told(method));
      checks.same(isPrivate || method.getModifiers() == Modifier.PUBLIC, true, told(method));
    }
    checks.same(new TreeSet<>(Arrays.asList(FACE)), open, "the methods that are not private");
    checks.same(41, open.size(), "the number of methods");
    for (Class<?> inner : all.getDeclaredClasses()) {
      checks.same(true, Modifier.isStatic(inner.getModifiers()), inner + " is static");
      for (Method method : inner.getDeclaredMethods()) {
        hidden.add(method.getName());
      }
    }
    for (String shown : open) {
      String name = shown.substring(0, shown.indexOf('('));
      checks.same(false, hidden.contains(name), "a second method " + name);
    }
    for (Field field : all.getDeclaredFields()) {
      checks.same(true, Modifier.isPrivate(field.getModifiers()), field + " is private");
    }
    Constructor<?>[] makers = all.getDeclaredConstructors();
    checks.same(1, makers.length, "the number of constructors");
    checks.same(0, makers[0].getParameterCount(), "the constructor's parameters");
  }

  private static String told(Method method) {
    List<String> kinds = new ArrayList<>();
    for (Class<?> kind : method.getParameterTypes()) {
      kinds.add(kind.getSimpleName());
    }
    return method.getName() + "(" + String.join(",", kinds) + ")"
        + method.getReturnType().getSimpleName();
  }

  private static void checkText(Checks checks, List<String> lines) {
    for (int i = 0; i < lines.size(); i++) {
      String line = lines.get(i);
      String where = "line " + (i + 1);
      checks.same(true, line.chars().allMatch(c -> c >= 32 && c < 127), where + " has plain signs");
      for (String word : SHUT_OUT) {
        checks.same(false, line.contains(word), where + " has " + word);
      }
    }
  }
}
