/** A test for each promise of the document, by its number: usual inputs, edges, wrong inputs. */
public final class PromiseTest {
  private static final Class<?> BOUNDS = Checks.BOUNDS;
  private static final Class<?> ARGUMENT = Checks.ARGUMENT;
  private static final int LOWEST = Checks.LOWEST;
  private static final int HIGHEST = Checks.HIGHEST;

  private final Checks c = new Checks();

  private PromiseTest() {
  }

  public static void main(String[] args) {
    PromiseTest test = new PromiseTest();
    test.testRooms();
    test.testFlow();
    test.testAskedOfRooms();
    test.testAskedOfFlows();
    test.testWouldBe();
    test.testWhole();
    test.c.end();
  }

  private void testRooms() {
    promise1();
    promise2();
    promise3();
    promise4();
    promise5();
    promise6();
    promise7();
    promise8();
    promise9();
  }

  private void testFlow() {
    promise10();
    promise11();
    promise12();
    promise13();
    promise14();
    promise14OfWaysAndRings();
    promise15();
  }

  private void testAskedOfRooms() {
    promise16();
    promise17();
    promise18();
    promise19();
    promise20();
    promise21And22();
    promise23To25();
  }

  private void testAskedOfFlows() {
    promise26();
    promise27();
    promise28();
    promise29();
    promise30();
    promise31();
    promise32();
    promise33();
    promise34();
  }

  private void testWouldBe() {
    promise35();
    promise36();
    promise37();
    promise38();
  }

  private void testWhole() {
    promise39And40();
    promise41();
    promise42();
  }

  // ==== places and rooms

  private void promise1() {
    c.about("promise 1");
    Brookmill b = new Brookmill();
    c.asks(b, 6, "told(0)", () -> b.told(0));
    c.asks(b, 0, "told(1)", () -> b.told(1));
    c.asks(b, 5, "told(2)", () -> b.told(2));
    c.asks(b, 0, "told(3)", () -> b.told(3));
    c.asks(b, 0, "told(4)", () -> b.told(4));
    c.asks(b, 0, "value()", () -> b.value());
    for (int what = 0; what <= 2; what++) {
      int asked = what;
      c.asks(b, 0, "house()", () -> b.house(asked));
    }
    c.same("6 0 5 |  /  |  /  |  /  |  /  |  /  |  / ", Checks.picture(b), "all");
  }

  private void promise2() {
    c.about("promise 2");
    Brookmill b = new Brookmill();
    for (int bad : new int[] {1, 0, -1, 10, LOWEST, HIGHEST}) {
      c.fails(b, ARGUMENT, "places(" + bad + ")", () -> b.places(bad));
    }
    c.acts(b, 6, "places(2)", () -> b.places(2));
    c.same(1, b.told(2), "told(2)");
    c.acts(b, 2, "places(9)", () -> b.places(9));
    c.same("9 0 8 |  /  |  /  |  /  |  /  |  /  |  /  |  /  |  /  |  / ", Checks.picture(b), "all");
    b.strew(3);
    b.fill(0);
    b.ends(4, 2);
    b.fill(0);
    b.knock();
    int acts = b.house(0);
    c.acts(b, 9, "places(9)", () -> b.places(9));
    c.same("9 0 8 |  /  |  /  |  /  |  /  |  /  |  /  |  /  |  /  |  / ", Checks.picture(b), "all");
    c.same(acts + 1, b.house(0), "house(0) is kept");
    c.same(1, b.house(2), "house(2) is kept");
    b.strew(3);
    b.places(3);
    b.places(9);
    c.same(0, b.told(4), "told(4) is of places that were gone");
  }

  private void promise3() {
    c.about("promise 3");
    Brookmill b = Nets.diamond();
    c.fails(b, BOUNDS, "ends(-1, 2)", () -> b.ends(-1, 2));
    c.fails(b, BOUNDS, "ends(4, 2)", () -> b.ends(4, 2));
    c.fails(b, BOUNDS, "ends(2, -1)", () -> b.ends(2, -1));
    c.fails(b, BOUNDS, "ends(2, 4)", () -> b.ends(2, 4));
    c.fails(b, BOUNDS, "ends(4, 4)", () -> b.ends(4, 4));
    c.fails(b, BOUNDS, "ends(-1, -1)", () -> b.ends(-1, -1));
    c.fails(b, ARGUMENT, "ends(2, 2)", () -> b.ends(2, 2));
    b.fill(0);
    c.acts(b, 11, "ends(1, 2)", () -> b.ends(1, 2));
    c.same("4 1 2 | 1:6 2:5 /  | 2:4 3:3 /  | 1:2 3:9 /  |  / ", Checks.picture(b), "all");
    b.step(0);
    c.acts(b, 4, "ends(1, 2), the same", () -> b.ends(1, 2));
    c.same(0, b.value(), "value()");
    c.same(0, b.pair(1, 2, 1), "pair(1, 2, 1)");
  }

  private void promise4() {
    c.about("promise 4");
    Brookmill b = Nets.diamond();
    c.fails(b, BOUNDS, "room(-1, 0, 1)", () -> b.room(-1, 0, 1));
    c.fails(b, BOUNDS, "room(0, 4, 1)", () -> b.room(0, 4, 1));
    c.fails(b, BOUNDS, "room(4, 4, 51)", () -> b.room(4, 4, 51));
    c.fails(b, BOUNDS, "room(0, HIGHEST, -1)", () -> b.room(0, HIGHEST, -1));
    c.fails(b, ARGUMENT, "room(1, 1, 5)", () -> b.room(1, 1, 5));
    c.fails(b, ARGUMENT, "room(0, 1, -1)", () -> b.room(0, 1, -1));
    c.fails(b, ARGUMENT, "room(0, 1, 51)", () -> b.room(0, 1, 51));
    c.acts(b, 6, "room(0, 1, 50)", () -> b.room(0, 1, 50));
    c.same(50, b.pair(0, 1, 0), "pair(0, 1, 0)");
    c.same(0, b.pair(1, 0, 0), "pair(1, 0, 0)");
    c.acts(b, 50, "room(0, 1, 0)", () -> b.room(0, 1, 0));
    c.acts(b, 0, "room(0, 1, 6)", () -> b.room(0, 1, 6));
    b.send(1, 3);
    c.refuses(b, "room(0, 1, 2)", () -> b.room(0, 1, 2));
    c.acts(b, 6, "room(0, 1, 3)", () -> b.room(0, 1, 3));
    c.acts(b, 0, "room(1, 0, 0), with a flow below 0", () -> b.room(1, 0, 0));
    c.same(3, b.value(), "value()");
  }

  private void promise5() {
    c.about("promise 5");
    Brookmill b = Nets.diamond();
    c.fails(b, BOUNDS, "widen(4, 0, 1)", () -> b.widen(4, 0, 1));
    c.fails(b, BOUNDS, "widen(0, -1, 1)", () -> b.widen(0, -1, 1));
    c.fails(b, BOUNDS, "widen(-1, -1, 99)", () -> b.widen(-1, -1, 99));
    c.fails(b, ARGUMENT, "widen(2, 2, 1)", () -> b.widen(2, 2, 1));
    c.fails(b, ARGUMENT, "widen(0, 1, 51)", () -> b.widen(0, 1, 51));
    c.fails(b, ARGUMENT, "widen(0, 1, -51)", () -> b.widen(0, 1, -51));
    c.fails(b, ARGUMENT, "widen(0, 1, LOWEST)", () -> b.widen(0, 1, LOWEST));
    c.acts(b, 10, "widen(0, 1, 4)", () -> b.widen(0, 1, 4));
    c.acts(b, 50, "widen(0, 1, 40)", () -> b.widen(0, 1, 40));
    c.refuses(b, "widen(0, 1, 1)", () -> b.widen(0, 1, 1));
    c.acts(b, 0, "widen(0, 1, -50)", () -> b.widen(0, 1, -50));
    c.refuses(b, "widen(0, 1, -1)", () -> b.widen(0, 1, -1));
    c.acts(b, 50, "widen(0, 1, 50)", () -> b.widen(0, 1, 50));
    c.acts(b, 50, "widen(0, 1, 0)", () -> b.widen(0, 1, 0));
    b.send(1, 3);
    c.refuses(b, "widen(1, 3, -1)", () -> b.widen(1, 3, -1));
    c.acts(b, 4, "widen(1, 3, 1)", () -> b.widen(1, 3, 1));
    c.acts(b, 3, "widen(1, 3, -1)", () -> b.widen(1, 3, -1));
    c.refuses(b, "widen(3, 1, -1)", () -> b.widen(3, 1, -1));
  }

  private void promise6() {
    c.about("promise 6");
    Brookmill b = Nets.diamond();
    c.fails(b, ARGUMENT, "circle(-1)", () -> b.circle(-1));
    c.fails(b, ARGUMENT, "circle(51)", () -> b.circle(51));
    c.acts(b, 3, "circle(4)", () -> b.circle(4));
    c.same("4 0 3 | 1:4 2:5 /  | 2:4 3:3 /  | 1:2 3:4 /  | 0:4 / ", Checks.picture(b), "all");
    c.acts(b, 0, "circle(4)", () -> b.circle(4));
    b.send(2, 4);
    c.refuses(b, "circle(3)", () -> b.circle(3));
    c.acts(b, 4, "circle(50)", () -> b.circle(50));
    c.acts(b, 4, "circle(4)", () -> b.circle(4));
    b.turnRound();
    c.acts(b, 1, "circle(0), with flows below 0 alone", () -> b.circle(0));
    Brookmill first = Nets.even(3, 9);
    first.ends(0, 1);
    first.send(0, 4);
    c.refuses(first, "circle(3), the first pair", () -> first.circle(3));
    Brookmill two = Nets.of(2, 0, 1, 5);
    c.acts(two, 1, "circle(5) of two", () -> two.circle(5));
    c.same("2 0 1 | 1:5 /  | 0:5 / ", Checks.picture(two), "all");
    two.turnRound();
    two.send(0, 5);
    c.refuses(two, "circle(4) of two", () -> two.circle(4));
    Brookmill back = Nets.even(3, 5);
    back.ends(2, 0);
    back.send(2, 2);
    c.refuses(back, "circle(1), the last pair", () -> back.circle(1));
  }

  private void promise7() {
    c.about("promise 7");
    Brookmill b = Nets.of(3, 0, 1, 9, 2, 0, 50);
    c.fails(b, ARGUMENT, "strew(-1)", () -> b.strew(-1));
    c.fails(b, ARGUMENT, "strew(10000)", () -> b.strew(10000));
    b.send(2, 0);
    b.send(0, 0);
    b.room(0, 2, 4);
    b.send(0, 4);
    // 0-1: 3, 0-2: 6, 1-0: 7, 1-2: 15, 2-0: 14, 2-1: 19, each without its elevens, less 4
    c.acts(b, 9, "strew(0)", () -> b.strew(0));
    c.same("3 0 2 | 2:2 /  | 0:3 /  | 1:4 / ", tell(b), "all");
    c.same(0, b.value(), "value()");
    // 9999 is 909 * 11: the same again
    c.acts(b, 9, "strew(9999)", () -> b.strew(9999));
    c.same("3 0 2 | 2:2 /  | 0:3 /  | 1:4 / ", tell(b), "all");
    // 10: 0-1 13, 0-2 16, 1-0 17, 1-2 25, 2-0 24, 2-1 29
    c.acts(b, 6, "strew(10)", () -> b.strew(10));
    c.same("3 0 2 | 2:1 /  | 0:2 /  | 1:3 / ", tell(b), "all");
    b.ends(2, 1);
    b.strew(10);
    c.same(2, b.told(1), "told(1)");
    c.same(1, b.told(2), "told(2)");
    Brookmill nine = new Brookmill();
    nine.places(9);
    c.acts(nine, 115, "strew(0)", () -> nine.strew(0));
  }

  private static String tell(Brookmill b) {
    return Checks.picture(b);
  }

  private void promise8() {
    c.about("promise 8");
    Brookmill b = Nets.diamond();
    b.step(1);
    c.acts(b, 4, "turnRound()", () -> b.turnRound());
    c.same("4 3 0 |  /  | 0:6 2:2 / 0:4 | 0:5 1:4 / 1:4 | 1:3 2:9 / 2:4", tell(b), "all");
    c.acts(b, 4, "turnRound()", () -> b.turnRound());
    c.same("4 0 3 | 1:6 2:5 / 1:4 | 2:4 3:3 / 2:4 | 1:2 3:9 / 3:4 |  / ", tell(b), "all");
    Brookmill none = new Brookmill();
    c.acts(none, 0, "turnRound()", () -> none.turnRound());
    c.same(5, none.told(1), "told(1)");
    c.same(0, none.told(2), "told(2)");
  }

  private void promise9() {
    c.about("promise 9");
    Brookmill b = Nets.diamond();
    c.fails(b, BOUNDS, "swap(-1, 0)", () -> b.swap(-1, 0));
    c.fails(b, BOUNDS, "swap(0, 4)", () -> b.swap(0, 4));
    c.fails(b, BOUNDS, "swap(4, 4)", () -> b.swap(4, 4));
    b.step(1);
    c.acts(b, 3, "swap(1, 2)", () -> b.swap(1, 2));
    c.same("4 0 3 | 1:5 2:6 / 2:4 | 2:2 3:9 / 3:4 | 1:4 3:3 / 1:4 |  / ", tell(b), "all");
    c.acts(b, 3, "swap(2, 2)", () -> b.swap(2, 2));
    c.same("4 0 3 | 1:5 2:6 / 2:4 | 2:2 3:9 / 3:4 | 1:4 3:3 / 1:4 |  / ", tell(b), "all");
    c.acts(b, 0, "swap(3, 0)", () -> b.swap(3, 0));
    c.same("4 3 0 |  /  | 0:9 2:2 / 0:4 | 0:3 1:4 / 1:4 | 1:5 2:6 / 2:4", tell(b), "all");
    c.acts(b, 2, "swap(0, 2)", () -> b.swap(0, 2));
    c.acts(b, 2, "swap(3, 1)", () -> b.swap(3, 1));
    c.same("4 1 2 | 2:3 3:4 / 3:4 | 0:6 3:5 / 0:4 |  /  | 0:2 2:9 / 2:4", tell(b), "all");
  }

  // ==== flow

  private void promise10() {
    c.about("promise 10");
    Brookmill b = Nets.diamond();
    c.fails(b, ARGUMENT, "step(-1)", () -> b.step(-1));
    c.fails(b, ARGUMENT, "step(3)", () -> b.step(3));
    c.acts(b, 3, "step(0)", () -> b.step(0));
    c.same("4 0 3 | 1:6 2:5 / 1:3 | 2:4 3:3 / 3:3 | 1:2 3:9 /  |  / ", tell(b), "all");
    c.acts(b, 3, "step(1)", () -> b.step(1));
    c.same("4 0 3 | 1:6 2:5 / 1:6 | 2:4 3:3 / 2:3 3:3 | 1:2 3:9 / 3:3 |  / ", tell(b), "all");
    c.acts(b, 5, "step(2)", () -> b.step(2));
    c.same("4 0 3 | 1:6 2:5 / 1:6 2:5 | 2:4 3:3 / 2:3 3:3 | 1:2 3:9 / 3:8 |  / ", tell(b), "all");
    for (int rule = 0; rule <= 2; rule++) {
      int by = rule;
      c.acts(b, 0, "step() without a track", () -> b.step(by));
    }
    c.same(11, b.value(), "value()");
    promise10TakesBack();
  }

  /** 0-1-2-3 first, so that the other one must take back what flows from 1 to 2. */
  private void promise10TakesBack() {
    Brookmill b = Nets.of(4, 0, 1, 5, 1, 2, 5, 2, 3, 5, 0, 2, 4, 1, 3, 3);
    c.acts(b, 5, "step(1)", () -> b.step(1));
    c.same("0-2-1-3", b.track(0), "track(0)");
    c.acts(b, 3, "step(0), taking back", () -> b.step(0));
    c.same("4 0 3 | 1:5 2:4 / 1:5 2:3 | 2:5 3:3 / 2:2 3:3 | 3:5 / 3:5 |  / ", tell(b), "all");
    c.same(-2, b.pair(2, 1, 1), "pair(2, 1, 1)");
  }

  private void promise11() {
    c.about("promise 11");
    Brookmill b = Nets.diamond();
    c.fails(b, ARGUMENT, "fill(-1)", () -> b.fill(-1));
    c.fails(b, ARGUMENT, "fill(3)", () -> b.fill(3));
    // 0-1-3:3, 0-2-3:5, 0-1-2-3:3
    c.acts(b, 3, "fill(0)", () -> b.fill(0));
    c.same("0-1-2-3:3 0-1-3:3 0-2-3:5", b.partsText(), "partsText()");
    c.acts(b, 0, "fill(0) again", () -> b.fill(0));
    b.empty();
    // 0-1-2-3:4, 0-1-3:2, 0-2-1-3:1, 0-2-3:4
    c.acts(b, 4, "fill(1)", () -> b.fill(1));
    c.same("0-1-2-3:3 0-1-3:3 0-2-3:5", b.partsText(), "partsText()");
    b.empty();
    // 0-2-3:5, 0-1-3:3, 0-1-2-3:3
    c.acts(b, 3, "fill(2)", () -> b.fill(2));
    c.same("0-1-2-3:3 0-1-3:3 0-2-3:5", b.partsText(), "partsText()");
    b.empty();
    b.step(2);
    c.acts(b, 2, "fill(0), begun already", () -> b.fill(0));
    Brookmill none = new Brookmill();
    c.acts(none, 0, "fill(0) without room", () -> none.fill(0));
  }

  private void promise12() {
    c.about("promise 12");
    Brookmill b = Nets.diamond();
    c.fails(b, BOUNDS, "send(-1, 1)", () -> b.send(-1, 1));
    c.fails(b, BOUNDS, "send(4, -1)", () -> b.send(4, -1));
    c.fails(b, ARGUMENT, "send(1, -1)", () -> b.send(1, -1));
    c.fails(b, ARGUMENT, "send(1, 51)", () -> b.send(1, 51));
    c.acts(b, 3, "send(1, 3)", () -> b.send(1, 3));
    c.same("4 0 3 | 1:6 2:5 / 1:3 | 2:4 3:3 / 3:3 | 1:2 3:9 /  |  / ", tell(b), "all");
    c.refuses(b, "send(1, 1), the second pair", () -> b.send(1, 1));
    c.refuses(b, "send(2, 6), the first pair", () -> b.send(2, 6));
    c.acts(b, 8, "send(2, 5)", () -> b.send(2, 5));
    c.acts(b, 8, "send(2, 0)", () -> b.send(2, 0));
    c.refuses(b, "send(0, 1) at once", () -> b.send(0, 1));
    c.refuses(b, "send(3, 1) at once", () -> b.send(3, 1));
    b.room(0, 3, 50);
    c.acts(b, 28, "send(0, 20)", () -> b.send(0, 20));
    c.acts(b, 58, "send(3, 30)", () -> b.send(3, 30));
    c.refuses(b, "send(3, 1)", () -> b.send(3, 1));
    c.acts(b, 58, "send(3, 0)", () -> b.send(3, 0));
    c.same(50, b.pair(0, 3, 1), "pair(0, 3, 1)");
    c.same(-50, b.pair(3, 0, 1), "pair(3, 0, 1)");
    b.turnRound();
    c.acts(b, 58, "send(1, 0)", () -> b.send(1, 0));
    c.refuses(b, "send(0, 1)", () -> b.send(0, 1));
  }

  private void promise13() {
    c.about("promise 13");
    Brookmill b = Nets.of(5, 0, 1, 4, 1, 4, 3, 4, 0, 2, 1, 2, 9, 2, 3, 9, 3, 1, 9);
    c.fails(b, BOUNDS, "round(-1, 0, 1, 1)", () -> b.round(-1, 0, 1, 1));
    c.fails(b, BOUNDS, "round(0, 5, 1, 1)", () -> b.round(0, 5, 1, 1));
    c.fails(b, BOUNDS, "round(0, 0, 5, 51)", () -> b.round(0, 0, 5, 51));
    c.fails(b, ARGUMENT, "round(0, 0, 1, 1)", () -> b.round(0, 0, 1, 1));
    c.fails(b, ARGUMENT, "round(0, 1, 1, 1)", () -> b.round(0, 1, 1, 1));
    c.fails(b, ARGUMENT, "round(0, 1, 0, 1)", () -> b.round(0, 1, 0, 1));
    c.fails(b, ARGUMENT, "round(0, 1, 2, -1)", () -> b.round(0, 1, 2, -1));
    c.fails(b, ARGUMENT, "round(0, 1, 2, 51)", () -> b.round(0, 1, 2, 51));
    c.refuses(b, "round(0, 1, 4, 3), the third pair", () -> b.round(0, 1, 4, 3));
    c.refuses(b, "round(4, 0, 1, 3), the first pair", () -> b.round(4, 0, 1, 3));
    c.refuses(b, "round(1, 4, 0, 3), the second pair", () -> b.round(1, 4, 0, 3));
    c.acts(b, 3, "round(0, 1, 4, 2)", () -> b.round(0, 1, 4, 2));
    c.same(0, b.value(), "value()");
    c.same(2, b.pair(0, 1, 1), "pair(0, 1, 1)");
    c.same(-2, b.pair(4, 1, 1), "pair(4, 1, 1)");
    c.same(2, b.pair(4, 0, 1), "pair(4, 0, 1)");
    c.acts(b, 6, "round(3, 1, 2, 9)", () -> b.round(3, 1, 2, 9));
    c.acts(b, 6, "round(2, 1, 0, 0)", () -> b.round(2, 1, 0, 0));
    c.acts(b, 3, "round(0, 4, 1, 2), taking back", () -> b.round(0, 4, 1, 2));
    Brookmill ones = Nets.even(3, 1);
    c.acts(ones, 3, "round(2, 1, 0, 1)", () -> ones.round(2, 1, 0, 1));
    Brookmill two = Nets.of(2);
    c.fails(two, ARGUMENT, "round(0, 1, 0, 0) of two", () -> two.round(0, 1, 0, 0));
  }

  private void promise14() {
    c.about("promise 14");
    Brookmill b = Nets.diamond();
    c.acts(b, 0, "peel() without flow", () -> b.peel());
    b.fill(0);
    c.acts(b, 3, "peel()", () -> b.peel());
    c.same("0-1-3:3 0-2-3:5", b.partsText(), "partsText()");
    c.same(8, b.value(), "value()");
    c.acts(b, 3, "peel()", () -> b.peel());
    c.acts(b, 5, "peel()", () -> b.peel());
    c.same("4 0 3 | 1:6 2:5 /  | 2:4 3:3 /  | 1:2 3:9 /  |  / ", tell(b), "all");
    c.acts(b, 0, "peel()", () -> b.peel());
  }

  private void promise14OfWaysAndRings() {
    Brookmill b = Nets.even(4, 9);
    b.send(0, 2);
    b.round(0, 3, 1, 4);
    // 0-3 carries 6, of which 4 come back by 1: the way takes the value alone
    c.same("0-3:2 0-3-1-0:4", b.partsText(), "partsText()");
    c.acts(b, 2, "peel() of the value", () -> b.peel());
    c.same(0, b.value(), "value()");
    c.acts(b, 4, "peel() of a ring past the goal", () -> b.peel());
    c.acts(b, 0, "peel()", () -> b.peel());
    b.send(2, 3);
    b.round(2, 1, 3, 2);
    // from 2 on 1 has the lesser number: 0-2-1-3, then back from 3 to 2 is left
    c.same("4 0 3 | 1:9 2:9 3:9 / 2:3 | 0:9 2:9 3:9 / 3:2 | 0:9 1:9 3:9 / 1:2 3:1 "
        + "| 0:9 1:9 2:9 / ", tell(b), "all");
    c.same("0-2-1-3:2 0-2-3:1", b.partsText(), "partsText()");
    c.acts(b, 2, "peel() of a way", () -> b.peel());
    c.same("0-2-3:1", b.partsText(), "partsText()");
  }

  private void promise15() {
    c.about("promise 15");
    Brookmill b = Nets.diamond();
    b.fill(0);
    c.acts(b, 11, "empty()", () -> b.empty());
    c.same("4 0 3 | 1:6 2:5 /  | 2:4 3:3 /  | 1:2 3:9 /  |  / ", tell(b), "all");
    c.acts(b, 0, "empty()", () -> b.empty());
    Brookmill ring = Nets.even(3, 9);
    ring.round(0, 1, 2, 5);
    c.acts(ring, 0, "empty() of a ring", () -> ring.empty());
    c.same("", ring.partsText(), "partsText()");
  }

  // ==== what is asked of rooms

  private void promise16() {
    c.about("promise 16");
    Brookmill b = Nets.diamond();
    b.ends(2, 1);
    c.fails(b, ARGUMENT, "told(-1)", () -> b.told(-1));
    c.fails(b, ARGUMENT, "told(5)", () -> b.told(5));
    c.asks(b, 4, "told(0)", () -> b.told(0));
    c.asks(b, 2, "told(1)", () -> b.told(1));
    c.asks(b, 1, "told(2)", () -> b.told(2));
    c.asks(b, 6, "told(3)", () -> b.told(3));
    c.asks(b, 29, "told(4)", () -> b.told(4));
    Brookmill full = Nets.even(9, 50);
    c.asks(full, 72, "told(3)", () -> full.told(3));
    c.asks(full, 3600, "told(4)", () -> full.told(4));
    Brookmill ones = Nets.of(3, 0, 1, 1, 2, 0, 1, 2, 1, 1);
    c.asks(ones, 3, "told(3)", () -> ones.told(3));
    c.asks(ones, 3, "told(4)", () -> ones.told(4));
  }

  private void promise17() {
    c.about("promise 17");
    Brookmill b = Nets.diamond();
    b.send(2, 4);
    c.fails(b, BOUNDS, "pair(-1, 0, 0)", () -> b.pair(-1, 0, 0));
    c.fails(b, BOUNDS, "pair(0, 4, 3)", () -> b.pair(0, 4, 3));
    c.fails(b, ARGUMENT, "pair(0, 0, 3)", () -> b.pair(0, 0, 3));
    c.fails(b, ARGUMENT, "pair(0, 1, -1)", () -> b.pair(0, 1, -1));
    c.asks(b, 5, "pair(0, 2, 0)", () -> b.pair(0, 2, 0));
    c.asks(b, 4, "pair(0, 2, 1)", () -> b.pair(0, 2, 1));
    c.asks(b, 1, "pair(0, 2, 2)", () -> b.pair(0, 2, 2));
    c.asks(b, 0, "pair(2, 0, 0)", () -> b.pair(2, 0, 0));
    c.asks(b, -4, "pair(2, 0, 1)", () -> b.pair(2, 0, 1));
    c.asks(b, 4, "pair(2, 0, 2)", () -> b.pair(2, 0, 2));
    for (int what = 0; what <= 2; what++) {
      int asked = what;
      c.asks(b, 0, "pair(2, 2)", () -> b.pair(2, 2, asked));
    }
  }

  private void promise18() {
    c.about("promise 18");
    Brookmill b = Nets.diamond();
    b.send(2, 4);
    b.send(1, 1);
    c.fails(b, BOUNDS, "ofPlace(-1, 0)", () -> b.ofPlace(-1, 0));
    c.fails(b, BOUNDS, "ofPlace(4, 4)", () -> b.ofPlace(4, 4));
    c.fails(b, ARGUMENT, "ofPlace(0, -1)", () -> b.ofPlace(0, -1));
    c.fails(b, ARGUMENT, "ofPlace(0, 4)", () -> b.ofPlace(0, 4));
    int[][] due = {{11, 0, 5, 5}, {7, 8, 0, 1}, {11, 9, 0, 4}, {0, 12, -5, 0}};
    for (int place = 0; place < 4; place++) {
      for (int what = 0; what < 4; what++) {
        int at = place;
        int asked = what;
        c.asks(b, due[at][asked], "ofPlace(" + at + ", " + asked + ")", () -> b.ofPlace(at, asked));
      }
    }
    b.turnRound();
    c.asks(b, -5, "ofPlace(0, 2)", () -> b.ofPlace(0, 2));
    c.asks(b, 0, "ofPlace(0, 3)", () -> b.ofPlace(0, 3));
    c.asks(b, 1, "ofPlace(1, 3), to place 0", () -> b.ofPlace(1, 3));
    c.asks(b, 5, "ofPlace(3, 3)", () -> b.ofPlace(3, 3));
  }

  private void promise19() {
    c.about("promise 19");
    Brookmill b = Nets.diamond();
    c.fails(b, BOUNDS, "roomText(-1)", () -> b.roomText(-1));
    c.fails(b, BOUNDS, "roomText(4)", () -> b.roomText(4));
    c.asks(b, "1:6 2:5", "roomText(0)", () -> b.roomText(0));
    c.asks(b, "1:2 3:9", "roomText(2)", () -> b.roomText(2));
    c.asks(b, "", "roomText(3)", () -> b.roomText(3));
    b.room(3, 0, 50);
    b.room(3, 1, 1);
    b.room(3, 2, 10);
    c.asks(b, "0:50 1:1 2:10", "roomText(3)", () -> b.roomText(3));
  }

  private void promise20() {
    c.about("promise 20");
    Brookmill b = Nets.diamond();
    c.fails(b, ARGUMENT, "cut(-1)", () -> b.cut(-1));
    c.fails(b, ARGUMENT, "cut(16)", () -> b.cut(16));
    c.fails(b, ARGUMENT, "cut(LOWEST)", () -> b.cut(LOWEST));
    int[] due = {-9, 11, -9, 12, -9, 17, -9, 12, -9, -9, -9, -9, -9, -9, -9, -9};
    for (int set = 0; set < due.length; set++) {
      int asked = set;
      c.asks(b, due[set], "cut(" + set + ")", () -> b.cut(asked));
    }
    c.same(0, b.house(1), "house(1)");
    b.ends(3, 1);
    c.asks(b, 0, "cut(8)", () -> b.cut(8));
    c.asks(b, 8, "cut(13)", () -> b.cut(13));
    c.asks(b, -9, "cut(10)", () -> b.cut(10));
    Brookmill nine = Nets.even(9, 50);
    c.asks(nine, 400, "cut(255)", () -> nine.cut(255));
    c.asks(nine, 1000, "cut(31)", () -> nine.cut(31));
    c.asks(nine, -9, "cut(511)", () -> nine.cut(511));
    c.fails(nine, ARGUMENT, "cut(512)", () -> nine.cut(512));
  }

  private void promise21And22() {
    c.about("promises 21 and 22");
    Brookmill b = Nets.diamond();
    c.asks(b, 11, "least()", () -> b.least());
    c.asks(b, true, "isLeast(1)", () -> b.isLeast(1));
    c.asks(b, false, "isLeast(3)", () -> b.isLeast(3));
    c.asks(b, false, "isLeast(0), no cut", () -> b.isLeast(0));
    c.fails(b, ARGUMENT, "isLeast(-1)", () -> b.isLeast(-1));
    c.fails(b, ARGUMENT, "isLeast(16)", () -> b.isLeast(16));
    b.ends(3, 0);
    c.asks(b, 0, "least()", () -> b.least());
    c.asks(b, true, "isLeast(8)", () -> b.isLeast(8));
    c.asks(b, false, "isLeast(2)", () -> b.isLeast(2));
    c.asks(b, false, "isLeast(15)", () -> b.isLeast(15));
    Brookmill line = Nets.line();
    c.asks(line, 3, "least()", () -> line.least());
    c.asks(line, true, "isLeast(3)", () -> line.isLeast(3));
    c.asks(line, true, "isLeast(7)", () -> line.isLeast(7));
    c.asks(line, false, "isLeast(15)", () -> line.isLeast(15));
    c.asks(line, false, "isLeast(12), no cut", () -> line.isLeast(12));
    Brookmill nine = Nets.even(9, 50);
    c.asks(nine, 400, "least()", () -> nine.least());
  }

  private void promise23To25() {
    c.about("promises 23 to 25");
    Brookmill b = Nets.line();
    c.asks(b, 2, "leasts()", () -> b.leasts());
    c.fails(b, ARGUMENT, "nthLeast(-1)", () -> b.nthLeast(-1));
    c.fails(b, ARGUMENT, "nthLeast(LOWEST)", () -> b.nthLeast(LOWEST));
    c.asks(b, 3, "nthLeast(0)", () -> b.nthLeast(0));
    c.asks(b, 7, "nthLeast(1)", () -> b.nthLeast(1));
    c.asks(b, -1, "nthLeast(2)", () -> b.nthLeast(2));
    c.asks(b, -1, "nthLeast(HIGHEST)", () -> b.nthLeast(HIGHEST));
    c.asks(b, 3, "end(false)", () -> b.end(false));
    c.asks(b, 7, "end(true)", () -> b.end(true));
    // two ways of two rooms of 2 each: any of the rooms of either may be cut
    Brookmill both = Nets.of(4, 0, 1, 2, 1, 3, 2, 0, 2, 2, 2, 3, 2);
    c.asks(both, 4, "leasts()", () -> both.leasts());
    int[] due = {1, 3, 5, 7, -1};
    for (int number = 0; number < due.length; number++) {
      int asked = number;
      c.asks(both, due[number], "nthLeast(" + number + ")", () -> both.nthLeast(asked));
    }
    c.asks(both, 1, "end(false)", () -> both.end(false));
    c.asks(both, 7, "end(true)", () -> both.end(true));
    Brookmill none = Nets.of(9);
    none.ends(8, 0);
    c.asks(none, 128, "leasts()", () -> none.leasts());
    c.asks(none, 256, "nthLeast(0)", () -> none.nthLeast(0));
    c.asks(none, 510, "nthLeast(127)", () -> none.nthLeast(127));
    c.asks(none, -1, "nthLeast(128)", () -> none.nthLeast(128));
    c.asks(none, 256, "end(false)", () -> none.end(false));
    c.asks(none, 510, "end(true)", () -> none.end(true));
    // {0} and {0, 1, 2} let the least through, what is between lets more
    Brookmill far = Nets.of(4, 0, 1, 3, 1, 2, 9, 2, 3, 3);
    c.asks(far, 2, "leasts()", () -> far.leasts());
    c.asks(far, 7, "nthLeast(1)", () -> far.nthLeast(1));
    c.asks(far, 1, "end(false)", () -> far.end(false));
    c.asks(far, 7, "end(true)", () -> far.end(true));
  }

  // ==== what is asked of flows

  private void promise26() {
    c.about("promise 26");
    Brookmill b = Nets.even(4, 9);
    c.asks(b, 0, "value()", () -> b.value());
    b.send(1, 4);
    c.asks(b, 4, "value()", () -> b.value());
    b.round(0, 3, 2, 5);
    c.asks(b, 4, "value()", () -> b.value());
    b.send(3, 2);
    c.asks(b, 6, "value()", () -> b.value());
    b.turnRound();
    c.asks(b, 6, "value()", () -> b.value());
  }

  private void promise27() {
    c.about("promise 27");
    Brookmill b = Nets.diamond();
    b.step(1);
    c.fails(b, ARGUMENT, "most(-1)", () -> b.most(-1));
    c.fails(b, ARGUMENT, "most(3)", () -> b.most(3));
    Brookmill nine = Nets.even(9, 50);
    nine.room(0, 8, 0);
    Brookmill none = Nets.of(9);
    for (int rule = 0; rule <= 2; rule++) {
      int by = rule;
      c.asks(b, 11, "most(" + rule + ")", () -> b.most(by));
      c.asks(nine, 350, "most(" + rule + ")", () -> nine.most(by));
      c.asks(none, 0, "most(" + rule + ")", () -> none.most(by));
    }
  }

  private void promise28() {
    c.about("promise 28");
    Brookmill b = Nets.diamond();
    c.asks(b, false, "isMost()", () -> b.isMost());
    b.step(0);
    b.step(0);
    c.asks(b, false, "isMost()", () -> b.isMost());
    b.step(0);
    c.asks(b, true, "isMost()", () -> b.isMost());
    b.widen(0, 1, 1);
    c.asks(b, false, "isMost()", () -> b.isMost());
    Brookmill none = new Brookmill();
    c.asks(none, true, "isMost()", () -> none.isMost());
  }

  private void promise29() {
    c.about("promise 29");
    Brookmill b = Nets.diamond();
    c.fails(b, ARGUMENT, "track(-1)", () -> b.track(-1));
    c.fails(b, ARGUMENT, "track(3)", () -> b.track(3));
    c.asks(b, "0-1-3", "track(0)", () -> b.track(0));
    c.asks(b, "0-1-2-3", "track(1)", () -> b.track(1));
    c.asks(b, "0-2-3", "track(2)", () -> b.track(2));
    Brookmill all = Nets.even(9, 1);
    c.asks(all, "0-8", "track(0)", () -> all.track(0));
    c.asks(all, "0-1-2-3-4-5-6-7-8", "track(1)", () -> all.track(1));
    c.asks(all, "0-8", "track(2)", () -> all.track(2));
    all.ends(4, 2);
    c.asks(all, "4-2", "track(0)", () -> all.track(0));
    c.asks(all, "4-0-1-2", "track(1)", () -> all.track(1));
    c.asks(all, "4-8-7-6-5-3-2", "track(2)", () -> all.track(2));
    all.ends(2, 0);
    c.asks(all, "2-0", "track(0)", () -> all.track(0));
    c.asks(all, "2-0", "track(1)", () -> all.track(1));
    c.asks(all, "2-8-7-6-5-4-3-1-0", "track(2)", () -> all.track(2));
    // 1 leads to 2 and 3 alone, and these only back: no track goes by them
    Brookmill blind =
        Nets.of(6, 0, 1, 1, 1, 2, 1, 2, 3, 1, 3, 1, 1, 3, 0, 1, 0, 4, 1, 4, 1, 1, 4, 5, 1);
    for (int rule = 0; rule <= 2; rule++) {
      int by = rule;
      c.asks(blind, "0-4-5", "track(" + rule + ")", () -> blind.track(by));
    }
    // 2 is at hand from 1, but leads on by 1 alone: one must go by 2 first
    Brookmill late = Nets.of(5, 0, 1, 1, 1, 2, 1, 2, 1, 1, 0, 2, 1, 1, 3, 1, 3, 4, 1);
    c.asks(late, "0-1-3-4", "track(1)", () -> late.track(1));
    c.asks(late, "0-2-1-3-4", "track(2)", () -> late.track(2));
    c.asks(late, "0-1-3-4", "track(0)", () -> late.track(0));
    late.fill(1);
    for (int rule = 0; rule <= 2; rule++) {
      int by = rule;
      c.asks(late, "", "track(" + rule + ")", () -> late.track(by));
    }
  }

  private void promise30() {
    c.about("promise 30");
    Brookmill b = Nets.line();
    c.fails(b, BOUNDS, "layer(-1)", () -> b.layer(-1));
    c.fails(b, BOUNDS, "layer(5)", () -> b.layer(5));
    for (int place = 0; place < 5; place++) {
      int asked = place;
      c.asks(b, place, "layer(" + place + ")", () -> b.layer(asked));
    }
    b.fill(0);
    c.asks(b, 1, "layer(1)", () -> b.layer(1));
    c.asks(b, -1, "layer(2)", () -> b.layer(2));
    b.ends(2, 4);
    c.asks(b, -1, "layer(0)", () -> b.layer(0));
    c.asks(b, 0, "layer(2)", () -> b.layer(2));
    c.asks(b, 2, "layer(4)", () -> b.layer(4));
    Brookmill past = Nets.of(3, 0, 2, 1, 2, 1, 1);
    c.asks(past, 2, "layer(1), past the goal", () -> past.layer(1));
    Brookmill back = Nets.of(4, 0, 1, 5, 1, 2, 5, 2, 3, 5, 0, 2, 4);
    back.step(1);
    c.asks(back, 1, "layer(2)", () -> back.layer(2));
    c.asks(back, 2, "layer(1), against the flow", () -> back.layer(1));
    c.asks(back, -1, "layer(3)", () -> back.layer(3));
    Brookmill nine =
        Nets.of(9, 0, 7, 1, 7, 6, 1, 6, 5, 1, 5, 4, 1, 4, 3, 1, 3, 2, 1, 2, 1, 1, 1, 8, 1);
    c.asks(nine, 8, "layer(8)", () -> nine.layer(8));
  }

  private void promise31() {
    c.about("promise 31");
    Brookmill b = Nets.diamond();
    b.step(1);
    b.send(2, 5);
    c.fails(b, ARGUMENT, "through(-1)", () -> b.through(-1));
    c.fails(b, ARGUMENT, "through(16)", () -> b.through(16));
    for (int set = 0; set < 16; set++) {
      int asked = set;
      int due = set % 2 == 1 && set < 8 ? 9 : -9;
      c.asks(b, due, "through(" + set + ")", () -> b.through(asked));
    }
    c.same(0, b.house(1), "house(1)");
  }

  private void promise32() {
    c.about("promise 32");
    Brookmill b = Nets.even(4, 9);
    c.asks(b, 0, "parts(false)", () -> b.parts(false));
    c.asks(b, 0, "parts(true)", () -> b.parts(true));
    b.round(1, 2, 3, 4);
    c.asks(b, 0, "parts(false)", () -> b.parts(false));
    c.asks(b, 1, "parts(true)", () -> b.parts(true));
    b.send(0, 2);
    b.send(1, 1);
    // 0-1-2-3:1 0-3:2 1-2-3-1:3
    c.asks(b, 2, "parts(false)", () -> b.parts(false));
    c.asks(b, 1, "parts(true)", () -> b.parts(true));
  }

  private void promise33() {
    c.about("promise 33");
    Brookmill b = Nets.even(4, 9);
    c.asks(b, "", "partsText()", () -> b.partsText());
    b.round(1, 2, 3, 4);
    c.asks(b, "1-2-3-1:4", "partsText()", () -> b.partsText());
    b.send(0, 2);
    b.send(1, 1);
    c.asks(b, "0-1-2-3:1 0-3:2 1-2-3-1:3", "partsText()", () -> b.partsText());
    // a ring met on the way to the goal comes first, without the places that lead to it
    Brookmill met = Nets.of(6, 0, 1, 9, 1, 5, 9, 1, 2, 9, 2, 3, 9, 3, 1, 9, 3, 4, 9, 4, 2, 9);
    met.send(1, 5);
    met.round(1, 2, 3, 7);
    c.asks(met, "1-2-3-1:7 0-1-5:5", "partsText()", () -> met.partsText());
    met.round(3, 4, 2, 2);
    c.asks(met, "1-2-3-1:7 0-1-5:5 2-3-4-2:2", "partsText()", () -> met.partsText());
    // a ring back to the source
    Brookmill back = Nets.even(4, 50);
    back.round(0, 1, 2, 20);
    back.send(3, 30);
    c.asks(back, "0-1-2-0:20 0-3:30", "partsText()", () -> back.partsText());
    // the goal's ring is found from the goal on, when the value is used up
    Brookmill goal = Nets.even(3, 50);
    goal.ends(1, 0);
    goal.send(0, 3);
    goal.round(0, 2, 1, 8);
    c.asks(goal, "1-0:3 0-2-1-0:8", "partsText()", () -> goal.partsText());
  }

  private void promise34() {
    c.about("promise 34");
    Brookmill b = Nets.diamond();
    c.fails(b, BOUNDS, "flowText(-1)", () -> b.flowText(-1));
    c.fails(b, BOUNDS, "flowText(4)", () -> b.flowText(4));
    c.asks(b, "", "flowText(0)", () -> b.flowText(0));
    b.fill(0);
    c.asks(b, "1:6 2:5", "flowText(0)", () -> b.flowText(0));
    c.asks(b, "2:3 3:3", "flowText(1)", () -> b.flowText(1));
    c.asks(b, "3:8", "flowText(2)", () -> b.flowText(2));
    c.asks(b, "", "flowText(3)", () -> b.flowText(3));
  }

  // ==== what would be

  private void promise35() {
    c.about("promise 35");
    Brookmill b = Nets.diamond();
    b.step(0);
    c.fails(b, BOUNDS, "would(-1, 0, 1)", () -> b.would(-1, 0, 1));
    c.fails(b, BOUNDS, "would(4, 4, 2)", () -> b.would(4, 4, 2));
    c.fails(b, ARGUMENT, "would(1, 1, 1)", () -> b.would(1, 1, 1));
    c.fails(b, ARGUMENT, "would(0, 1, 2)", () -> b.would(0, 1, 2));
    c.fails(b, ARGUMENT, "would(0, 1, -2)", () -> b.would(0, 1, -2));
    c.asks(b, 12, "would(0, 1, 1)", () -> b.would(0, 1, 1));
    c.asks(b, 11, "would(0, 1, 0)", () -> b.would(0, 1, 0));
    c.asks(b, 10, "would(0, 1, -1)", () -> b.would(0, 1, -1));
    c.asks(b, 11, "would(1, 3, -1)", () -> b.would(1, 3, -1));
    c.asks(b, 12, "would(0, 3, 1)", () -> b.would(0, 3, 1));
    c.asks(b, 11, "would(3, 0, 0)", () -> b.would(3, 0, 0));
    c.asks(b, -9, "would(3, 0, -1)", () -> b.would(3, 0, -1));
    c.same(0, b.house(1), "house(1)");
    Brookmill two = Nets.of(2, 0, 1, 50);
    two.fill(0);
    c.asks(two, 51, "would(0, 1, 1)", () -> two.would(0, 1, 1));
    c.asks(two, 49, "would(0, 1, -1), below its flow", () -> two.would(0, 1, -1));
    c.same(12, Nets.diamond().would(0, 1, 1), "would(0, 1, 1), asked at once");
    c.same(11, Nets.diamond().would(0, 1, 0), "would(0, 1, 0), asked at once");
    b.room(0, 3, 5);
    c.same(17, b.would(0, 1, 1), "would(0, 1, 1), asked at once");
    two.places(3);
    c.same(0, two.would(0, 1, 1), "would(0, 1, 1) of other places, asked at once");
  }

  private void promise36() {
    c.about("promise 36");
    Brookmill b = Nets.diamond();
    b.fill(1);
    c.fails(b, BOUNDS, "between(-1, 0)", () -> b.between(-1, 0));
    c.fails(b, BOUNDS, "between(0, 4)", () -> b.between(0, 4));
    c.fails(b, BOUNDS, "between(4, 4)", () -> b.between(4, 4));
    c.fails(b, ARGUMENT, "between(1, 1)", () -> b.between(1, 1));
    c.asks(b, 11, "between(0, 3)", () -> b.between(0, 3));
    c.asks(b, 4, "between(1, 2)", () -> b.between(1, 2));
    c.asks(b, 2, "between(2, 1)", () -> b.between(2, 1));
    c.asks(b, 9, "between(0, 2)", () -> b.between(0, 2));
    c.asks(b, 7, "between(1, 3)", () -> b.between(1, 3));
    c.asks(b, 0, "between(3, 0)", () -> b.between(3, 0));
    c.same(4, Nets.diamond().between(1, 2), "between(1, 2), asked at once");
    b.room(1, 2, 9);
    c.same(9, b.between(1, 2), "between(1, 2), asked at once");
  }

  private void promise37() {
    c.about("promise 37");
    Brookmill b = Nets.diamond();
    c.asks(b, 11, "about()", () -> b.about());
    b.fill(0);
    c.asks(b, 11, "about()", () -> b.about());
    b.ends(2, 1);
    c.asks(b, 2, "about()", () -> b.about());
    b.ends(3, 0);
    c.asks(b, 0, "about()", () -> b.about());
    c.same(11, Nets.diamond().about(), "about(), asked at once");
    b.room(3, 0, 4);
    c.same(4, b.about(), "about(), asked at once");
  }

  private void promise38() {
    c.about("promise 38");
    Brookmill b = Nets.diamond();
    b.fill(0);
    c.fails(b, ARGUMENT, "apart(-1)", () -> b.apart(-1));
    c.fails(b, ARGUMENT, "apart(2)", () -> b.apart(2));
    Brookmill line = Nets.line();
    Brookmill nine = Nets.even(9, 50);
    Brookmill none = new Brookmill();
    // the widest cut of rooms is not that of the fewest: three rooms of 1 against one of 50
    Brookmill few = Nets.of(5, 0, 1, 1, 0, 2, 1, 0, 3, 1, 1, 3, 1, 2, 3, 1, 3, 4, 50);
    for (int how = 0; how <= 1; how++) {
      int by = how;
      c.asks(b, 2, "apart(" + how + ")", () -> b.apart(by));
      c.asks(line, 1, "apart(" + how + ")", () -> line.apart(by));
      c.asks(nine, 8, "apart(" + how + ")", () -> nine.apart(by));
      c.asks(none, 0, "apart(" + how + ")", () -> none.apart(by));
      c.asks(few, 1, "apart(" + how + ")", () -> few.apart(by));
      // a room alone does not count for the pair turned round
      c.same(0, Nets.of(4, 0, 1, 5, 2, 1, 5, 2, 3, 5).apart(how), "apart(" + how + ") of no way");
      Brookmill down = Nets.of(3, 2, 0, 9, 2, 1, 9, 1, 0, 9);
      down.ends(2, 0);
      c.same(2, down.apart(how), "apart(" + how + ") to place 0, asked at once");
      c.same(2, Nets.diamond().apart(how), "apart(" + how + "), asked at once");
    }
  }

  // ==== the whole

  private void promise39And40() {
    c.about("promises 39 and 40");
    Brookmill b = new Brookmill();
    c.fails(b, ARGUMENT, "house(-1)", () -> b.house(-1));
    c.fails(b, ARGUMENT, "house(3)", () -> b.house(3));
    b.places(4);
    b.ends(1, 2);
    b.ends(0, 3);
    b.room(0, 1, 4);
    b.widen(0, 1, 2);
    b.circle(5);
    b.strew(8);
    b.turnRound();
    b.swap(1, 1);
    b.step(0);
    b.fill(1);
    b.send(1, 0);
    b.round(0, 1, 2, 0);
    b.peel();
    b.empty();
    c.asks(b, 15, "house(0)", () -> b.house(0));
    c.asks(b, 0, "house(1)", () -> b.house(1));
    b.room(0, 1, 3);
    b.widen(0, 1, -4);
    b.send(0, 50);
    b.cut(0);
    b.through(0);
    c.asks(b, 16, "house(0)", () -> b.house(0));
    c.asks(b, 2, "house(1)", () -> b.house(1));
    c.asks(b, 0, "house(2)", () -> b.house(2));
    String before = tell(b);
    c.same(1, b.knock(), "knock()");
    c.same(2, b.knock(), "knock()");
    c.same(before, tell(b), "all");
    c.asks(b, 16, "house(0)", () -> b.house(0));
    c.asks(b, 2, "house(1)", () -> b.house(1));
    c.asks(b, 2, "house(2)", () -> b.house(2));
    b.places(4);
    c.same(3, b.knock(), "knock()");
  }

  private void promise41() {
    c.about("promise 41");
    for (int many = 2; many <= 9; many++) {
      Brookmill b = new Brookmill();
      b.places(many);
      c.asks(b, true, "isSound()", () -> b.isSound());
      b.strew(many * 31);
      b.step(1);
      c.asks(b, true, "isSound()", () -> b.isSound());
      b.fill(2);
      c.asks(b, true, "isSound()", () -> b.isSound());
      b.swap(0, many / 2);
      b.turnRound();
      c.asks(b, true, "isSound()", () -> b.isSound());
    }
    Brookmill rings = Nets.even(6, 50);
    rings.send(0, 9);
    rings.round(5, 1, 0, 50);
    rings.round(2, 3, 4, 7);
    c.asks(rings, true, "isSound()", () -> rings.isSound());
  }

  private void promise42() {
    c.about("promise 42");
    Brookmill fresh = new Brookmill();
    c.same(spelled(fresh), fresh.digest(), "digest() of a new object");
    Brookmill b = Nets.diamond();
    b.fill(1);
    b.room(0, 1, 1);
    b.knock();
    c.same(spelled(b), b.digest(), "digest()");
    Brookmill rings = Nets.even(5, 9);
    rings.send(1, 3);
    rings.round(2, 3, 4, 4);
    rings.swap(0, 2);
    c.same(spelled(rings), rings.digest(), "digest()");
    Brookmill two = Nets.of(2, 0, 1, 50);
    two.send(0, 50);
    two.room(0, 1, 49);
    two.widen(0, 1, 1);
    two.turnRound();
    c.same(spelled(two), two.digest(), "digest()");
  }

  /** The digest as the document spells it, from the answers of the other methods. */
  private static long spelled(Brookmill b) {
    long[] d = {8026};
    for (int what = 0; what <= 4; what++) {
      put(d, b.told(what));
    }
    for (int place = 0; place < b.told(0); place++) {
      for (int what = 0; what <= 3; what++) {
        put(d, b.ofPlace(place, what));
      }
      put(d, b.layer(place));
      for (int to = 0; to < b.told(0); to++) {
        put(d, b.pair(place, to, 0));
        put(d, b.pair(place, to, 1));
      }
    }
    put(d, b.value());
    put(d, b.most(0));
    put(d, b.leasts());
    put(d, b.end(false));
    put(d, b.end(true));
    put(d, b.parts(false));
    put(d, b.parts(true));
    put(d, b.partsText().length());
    put(d, b.apart(0));
    for (int what = 0; what <= 2; what++) {
      put(d, b.house(what));
    }
    put(d, b.isSound() ? 1 : 0);
    return d[0];
  }

  private static void put(long[] d, long v) {
    d[0] = d[0] * 31 + v;
  }
}
