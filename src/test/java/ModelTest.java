import java.lang.reflect.InvocationTargetException;
import java.lang.reflect.Method;
import java.util.ArrayList;
import java.util.Arrays;
import java.util.HashMap;
import java.util.List;
import java.util.Map;
import java.util.Random;

/** Drawn runs of calls, the same ones each time: each answer is that of the plain model. */
public final class ModelTest {
  private static final int RUNS = 900;
  private static final int CALLS = 250;

  // How often a call is drawn, its name, and what its arguments are: p a place, n how many places,
  // r a room or a number sent, b by how much, u by one, s a seed, R a rule, w what, S a set,
  // k a number, f a boolean.
  private static final String[] CALLS_DRAWN = {
    "1 places n", "1 ends pp", "16 room ppr", "6 widen ppb", "2 circle r", "1 strew s",
    "2 turnRound -", "3 swap pp", "5 step R", "2 fill R", "8 send pr", "12 round pppr",
    "4 peel -", "1 empty -", "1 told w", "2 pair ppw", "2 ofPlace pw", "1 roomText p", "2 cut S",
    "1 least -", "1 isLeast S", "1 leasts -", "2 nthLeast k", "2 end f", "1 value -", "1 most R",
    "1 isMost -", "3 track R", "2 layer p", "2 through S", "2 parts f", "3 partsText -",
    "1 flowText p", "2 would ppu", "2 between pp", "1 about -", "1 apart w", "1 house w",
    "1 knock -", "1 isSound -", "4 digest -",
  };

  private final Random draw;
  private final int mostPlaces;
  private final List<String> told = new ArrayList<>();
  private final Brookmill b = new Brookmill();
  private final PlainModel model = new PlainModel();

  private ModelTest(long seed) {
    draw = new Random(seed);
    // The model lists all tracks, which are too many with nine wide places.
    mostPlaces = seed % 10 == 0 ? 9 : 6;
  }

  public static void main(String[] args) throws Exception {
    Map<String, Method> ours = methods(Brookmill.class);
    Map<String, Method> plain = methods(PlainModel.class);
    List<String> hat = new ArrayList<>();
    for (String drawn : CALLS_DRAWN) {
      String[] parts = drawn.split(" ");
      for (int i = 0; i < Integer.parseInt(parts[0]); i++) {
        hat.add(parts[1] + " " + parts[2]);
      }
    }
    Checks checks = new Checks();
    checks.same(41, ours.size(), "the number of methods");
    checks.same(41, CALLS_DRAWN.length, "the number of calls");
    int runs = args.length > 1 ? Integer.parseInt(args[1]) : RUNS;
    for (int run = 0; run < runs; run++) {
      new ModelTest(run).run(checks, run, hat, ours, plain);
    }
    checks.end();
  }

  private static Map<String, Method> methods(Class<?> of) {
    Map<String, Method> all = new HashMap<>();
    for (Method method : of.getMethods()) {
      if (method.getDeclaringClass() == of) {
        all.put(method.getName(), method);
      }
    }
    return all;
  }

  private void run(Checks checks, int run, List<String> hat, Map<String, Method> ours,
      Map<String, Method> plain) throws Exception {
    checks.about("run " + run);
    for (int i = 0; i < CALLS; i++) {
      String drawn = hat.get(draw.nextInt(hat.size()));
      if (i == 0) {
        drawn = "places n";
      } else if (i == 1 && run % 3 == 0) {
        drawn = "strew s";
      }
      String[] call = drawn.split(" ");
      Object[] arguments = arguments(call[1]);
      String name = call[0] + Arrays.toString(arguments);
      told.add(name);
      Object want = answer(plain.get(call[0]), model, arguments);
      Object got = answer(ours.get(call[0]), b, arguments);
      checks.same(want, got, name);
      checks.same(model.partsText(), b.partsText(), "partsText() behind " + name);
      if (!want.equals(got)) {
        System.out.println("behind " + told);
        return;
      }
    }
    checks.same(model.digest(), b.digest(), "digest() at the end");
  }

  private static Object answer(Method method, Object of, Object[] arguments) throws Exception {
    try {
      return method.invoke(of, arguments);
    } catch (InvocationTargetException e) {
      return "throws." + e.getCause().getClass().getSimpleName();
    }
  }

  private Object[] arguments(String kinds) {
    if (kinds.equals("-")) {
      return new Object[0];
    }
    Object[] all = new Object[kinds.length()];
    List<Integer> used = new ArrayList<>();
    for (int i = 0; i < all.length; i++) {
      all[i] = argument(kinds.charAt(i), used);
    }
    return all;
  }

  private Object argument(char kind, List<Integer> used) {
    int n = model.told(0);
    if (kind != 'f' && draw.nextInt(40) == 0) {
      int[] odd = {-1, n, 10, 51, -51, 1 << n, 10000, 0, 3, 5, Integer.MIN_VALUE,
          Integer.MAX_VALUE};
      return odd[draw.nextInt(odd.length)];
    }
    switch (kind) {
      case 'p':
        int place = draw.nextInt(n);
        // Unlike places for the most part, so that most calls are let.
        for (int i = 0; i < 3 && used.contains(place); i++) {
          place = draw.nextInt(n);
        }
        used.add(place);
        return place;
      case 'n':
        return 2 + draw.nextInt(mostPlaces - 1);
      case 'r':
        return draw.nextInt(3) == 0 ? draw.nextInt(51) : draw.nextInt(8);
      case 'b':
        return draw.nextInt(4) == 0 ? draw.nextInt(101) - 50 : draw.nextInt(13) - 5;
      case 'u':
        return draw.nextInt(3) - 1;
      case 's':
        return draw.nextInt(10000);
      case 'R':
        return draw.nextInt(3);
      case 'w':
        return draw.nextInt(3);
      case 'S':
        return draw.nextInt(1 << n);
      case 'k':
        return draw.nextInt(5);
      default:
        return draw.nextBoolean();
    }
  }
}
