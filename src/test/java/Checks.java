import java.util.concurrent.Callable;

/** Counts what is not as it should be, and tells it. */
final class Checks {
  static final Class<?> BOUNDS = IndexOutOfBoundsException.class;
  static final Class<?> ARGUMENT = IllegalArgumentException.class;
  static final int LOWEST = Integer.MIN_VALUE;
  static final int HIGHEST = Integer.MAX_VALUE;

  private int made = 0;
  private int wrong = 0;
  private String about = "";

  void about(String what) {
    about = what;
  }

  void same(Object want, Object got, String call) {
    made++;
    if (want == null ? got != null : !want.equals(got)) {
      wrong++;
      System.out.println(about + ": " + call + " answered " + got + ", due is " + want);
    }
  }

  /** A question: the answer that is due, and nothing changed by it. */
  void asks(Brookmill b, Object want, String call, Callable<?> question) {
    long before = b.digest();
    same(want, answer(question), call);
    same(before, b.digest(), "digest() behind " + call);
  }

  /** An act that is done: the answer that is due, counted as done. */
  void acts(Brookmill b, Object want, String call, Callable<?> act) {
    int done = b.house(0);
    int refused = b.house(1);
    same(want, answer(act), call);
    same(done + 1, b.house(0), "house(0) behind " + call);
    same(refused, b.house(1), "house(1) behind " + call);
    same(true, b.isSound(), "isSound() behind " + call);
  }

  /** An act that can not be done: -9, counted as that, and nothing else changed. */
  void refuses(Brookmill b, String call, Callable<?> act) {
    int done = b.house(0);
    int refused = b.house(1);
    String before = picture(b);
    same(-9, answer(act), call);
    same(done, b.house(0), "house(0) behind " + call);
    same(refused + 1, b.house(1), "house(1) behind " + call);
    same(before, picture(b), "all behind " + call);
  }

  /** A call that throws just that, and changes nothing. */
  void fails(Brookmill b, Class<?> exception, String call, Callable<?> bad) {
    long before = b.digest();
    same("throws." + exception.getSimpleName(), answer(bad), call);
    same(before, b.digest(), "digest() behind " + call);
  }

  /** A call with one number that is looked at. */
  interface Call {
    Object with(int number) throws Exception;
  }

  /** A number of lowest to highest: one less, one more and the farthest ones throw. */
  void bounds(Brookmill b, Class<?> exception, int lowest, int highest, String name, Call call) {
    for (int bad : new int[] {lowest - 1, highest + 1, LOWEST, HIGHEST}) {
      fails(b, exception, name + " with " + bad, () -> call.with(bad));
    }
    for (int good : new int[] {lowest, highest}) {
      Object got = answer(() -> call.with(good));
      same(false, String.valueOf(got).startsWith("throws."), name + " with " + good + " throws");
    }
  }

  /** A place: one before the first one, one behind the last one and the farthest ones throw. */
  void places(Brookmill b, String name, Call call) {
    bounds(b, BOUNDS, 0, b.told(0) - 1, name, call);
  }

  /** Rooms, flows and ends as a text. */
  static String picture(Brookmill b) {
    StringBuilder text = new StringBuilder();
    text.append(b.told(0)).append(' ').append(b.told(1)).append(' ').append(b.told(2));
    for (int place = 0; place < b.told(0); place++) {
      text.append(" | ").append(b.roomText(place)).append(" / ").append(b.flowText(place));
    }
    return text.toString();
  }

  static Object answer(Callable<?> call) {
    try {
      return call.call();
    } catch (Exception e) {
      return "throws." + e.getClass().getSimpleName();
    }
  }

  void end() {
    System.out.println(made + " checks, " + wrong + " wrong");
    if (wrong != 0 || made == 0) {
      System.exit(1);
    }
  }
}
