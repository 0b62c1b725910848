/** Promises 1 to 15: a test for each of their sentences that names an edge. */
public final class EdgeOfActsTest {
  private static final Class<?> BOUNDS = Checks.BOUNDS;
  private static final Class<?> ARGUMENT = Checks.ARGUMENT;

  private final Checks c = new Checks();

  private EdgeOfActsTest() {
  }

  public static void main(String[] args) {
    EdgeOfActsTest test = new EdgeOfActsTest();
    test.newObject();
    test.ofPlaces();
    test.ofEnds();
    test.ofRoom();
    test.ofWiden();
    test.ofCircle();
    test.ofStrew();
    test.ofTurnRound();
    test.ofSwap();
    test.ofStep();
    test.ofFill();
    test.ofSend();
    test.ofRound();
    test.ofPeel();
    test.ofEmpty();
    test.c.end();
  }

  private void ofPlaces() {
    placesTooFewOrMany();
    placesAsManyAsThereAre();
    placesFewerAndMoreAgain();
  }

  private void ofEnds() {
    endsOutOfPlaces();
    endsTheSame();
    endsAsTheyWere();
    endsOfRingsAlone();
  }

  private void ofRoom() {
    roomOutOfBounds();
    roomAsTheFlow();
    roomAgainstTheFlow();
  }

  private void ofWiden() {
    widenByTooMuch();
    widenToTheBounds();
    widenToTheFlow();
  }

  private void ofCircle() {
    circleOutOfBounds();
    circleWrapsAround();
    circleOfTwo();
    circleAsTheFlow();
    circleAsAllAre();
  }

  private void ofStrew() {
    strewOutOfBounds();
    strewnWrapsAround();
    strewnOfNine();
    strewTakesTheFlow();
  }

  private void ofTurnRound() {
    turnRoundOfTwo();
    turnRoundFull();
    turnRoundOfRings();
  }

  private void ofSwap() {
    swapOutOfPlaces();
    swapOfOne();
    swapOfEnds();
    swapOfLast();
  }

  private void ofStep() {
    stepOutOfRules();
    stepWithoutTrack();
    stepThatFills();
  }

  private void ofFill() {
    fillOutOfRules();
    fillWithoutTrack();
    fillOnce();
    fillMany();
  }

  private void ofSend() {
    sendOutOfBounds();
    sendOverEnds();
    sendAsMuchAsIsLeft();
    sendNothing();
    sendTwiceTheRoom();
    sendOfTwo();
  }

  private void ofRound() {
    roundOutOfBounds();
    roundOfTwoTheSame();
    roundAsMuchAsIsLeft();
    roundNothing();
    roundTakenBack();
    roundOfTwoPlaces();
    roundPastTheEnds();
  }

  private void ofPeel() {
    peelNothing();
    peelLast();
    peelOfRing();
  }

  private void ofEmpty() {
    emptyOfNothing();
    emptyOfRings();
    emptyOfTheMost();
  }

  // ==== promise 1

  private void newObject() {
    c.about("promise 1: creates six places without room");
    Brookmill b = new Brookmill();
    c.same("6 0 5 |  /  |  /  |  /  |  /  |  /  |  / ", Checks.picture(b), "all");
    c.same("", b.partsText(), "partsText()");
    c.same("0 0 0", b.house(0) + " " + b.house(1) + " " + b.house(2), "house()");
  }

  // ==== promise 2

  private void placesTooFewOrMany() {
    c.about("promise 2: if many is not 2 to 9");
    Brookmill b = Nets.diamond();
    c.bounds(b, ARGUMENT, 2, 9, "places()", many -> b.places(many));
  }

  private void placesAsManyAsThereAre() {
    c.about("promise 2: ROOMS, FLOW and ENDS are as at first, though as many as there were");
    Brookmill b = Nets.diamond();
    b.fill(0);
    b.swap(0, 2);
    c.acts(b, 4, "places(4)", () -> b.places(4));
    c.same("4 0 3 |  /  |  /  |  /  |  / ", Checks.picture(b), "all");
  }

  private void placesFewerAndMoreAgain() {
    c.about("promise 2: there are so many PLACES from now on");
    Brookmill b = Nets.even(9, 50);
    b.fill(0);
    c.acts(b, 9, "places(2)", () -> b.places(2));
    c.fails(b, BOUNDS, "layer(2) of two", () -> b.layer(2));
    c.acts(b, 2, "places(9)", () -> b.places(9));
    c.asks(b, 0, "told(4)", () -> b.told(4));
    c.asks(b, "", "flowText(0)", () -> b.flowText(0));
    c.asks(b, -1, "layer(8)", () -> b.layer(8));
  }

  // ==== promise 3

  private void endsOutOfPlaces() {
    c.about("promise 3: if source or goal is not 0 to N - 1");
    Brookmill b = Nets.diamond();
    b.ends(1, 2);
    c.places(b, "ends(, 1)", place -> b.ends(place, 1));
    c.places(b, "ends(1, )", place -> b.ends(1, place));
  }

  private void endsTheSame() {
    c.about("promise 3: if both are the same");
    Brookmill b = Nets.diamond();
    b.fill(0);
    c.fails(b, ARGUMENT, "ends(0, 0)", () -> b.ends(0, 0));
    c.fails(b, ARGUMENT, "ends(3, 3)", () -> b.ends(3, 3));
    c.same(11, b.value(), "value()");
  }

  private void endsAsTheyWere() {
    c.about("promise 3: the FLOW is 0 everywhere then, the ENDS the same as before");
    Brookmill b = Nets.diamond();
    c.acts(b, 0, "ends(0, 3) without FLOW", () -> b.ends(0, 3));
    b.fill(0);
    c.acts(b, 11, "ends(0, 3)", () -> b.ends(0, 3));
    c.same("4 0 3 | 1:6 2:5 /  | 2:4 3:3 /  | 1:2 3:9 /  |  / ", Checks.picture(b), "all");
    b.fill(0);
    c.acts(b, 11, "ends(3, 0), exchanged", () -> b.ends(3, 0));
    c.same("4 3 0 | 1:6 2:5 /  | 2:4 3:3 /  | 1:2 3:9 /  |  / ", Checks.picture(b), "all");
  }

  private void endsOfRingsAlone() {
    c.about("promise 3: returns the VALUE till then, 0 of rings");
    Brookmill b = Nets.even(4, 9);
    b.round(0, 1, 2, 9);
    c.acts(b, 0, "ends(0, 3)", () -> b.ends(0, 3));
    c.same("", b.partsText(), "partsText()");
  }

  // ==== promise 4

  private void roomOutOfBounds() {
    c.about("promise 4: if from or to is not 0 to N - 1; if room is not 0 to 50");
    Brookmill b = Nets.diamond();
    b.swap(1, 2);
    c.places(Nets.of(2), "room() of two, from", place -> Nets.of(2).room(place, 1 - place, 1));
    c.fails(b, BOUNDS, "room(4, 0, 1)", () -> b.room(4, 0, 1));
    c.fails(b, BOUNDS, "room(-1, 0, 1)", () -> b.room(-1, 0, 1));
    c.fails(b, BOUNDS, "room(0, 4, 1)", () -> b.room(0, 4, 1));
    c.fails(b, BOUNDS, "room(0, -1, 1)", () -> b.room(0, -1, 1));
    c.bounds(b, ARGUMENT, 0, 50, "room(2, 1, )", room -> b.room(2, 1, room));
    c.same(50, b.pair(2, 1, 0), "pair(2, 1, 0)");
  }

  private void roomAsTheFlow() {
    c.about("promise 4: -9 if its FLOW is above room");
    Brookmill b = Nets.of(2, 0, 1, 50);
    b.send(0, 50);
    c.refuses(b, "room(0, 1, 49), just below the FLOW", () -> b.room(0, 1, 49));
    c.acts(b, 50, "room(0, 1, 50), just the FLOW", () -> b.room(0, 1, 50));
    c.refuses(b, "room(0, 1, 0)", () -> b.room(0, 1, 0));
    b.empty();
    c.acts(b, 50, "room(0, 1, 0) without FLOW", () -> b.room(0, 1, 0));
  }

  private void roomAgainstTheFlow() {
    c.about("promise 4: its FLOW is below 0, so no room is too small");
    Brookmill b = Nets.even(2, 50);
    b.send(0, 50);
    c.acts(b, 50, "room(1, 0, 0)", () -> b.room(1, 0, 0));
    c.acts(b, 0, "room(1, 0, 0) again", () -> b.room(1, 0, 0));
    c.same(50, b.pair(1, 0, 2), "pair(1, 0, 2)");
  }

  // ==== promise 5

  private void widenByTooMuch() {
    c.about("promise 5: if by is not -50 to 50; if from or to is not 0 to N - 1");
    Brookmill b = Nets.of(3, 0, 1, 50);
    c.bounds(b, ARGUMENT, -50, 50, "widen(0, 1, )", by -> b.widen(0, 1, by));
    c.same(50, b.pair(0, 1, 0), "pair(0, 1, 0)");
    c.fails(b, BOUNDS, "widen(3, 0, 1)", () -> b.widen(3, 0, 1));
    c.fails(b, BOUNDS, "widen(-1, 0, 1)", () -> b.widen(-1, 0, 1));
    c.fails(b, BOUNDS, "widen(0, 3, 1)", () -> b.widen(0, 3, 1));
    c.fails(b, BOUNDS, "widen(0, -1, 1)", () -> b.widen(0, -1, 1));
  }

  private void widenToTheBounds() {
    c.about("promise 5: -9 if it would not be 0 to 50");
    Brookmill b = Nets.of(3, 0, 1, 1, 1, 2, 49);
    c.acts(b, 0, "widen(0, 1, -1)", () -> b.widen(0, 1, -1));
    c.refuses(b, "widen(0, 1, -1), to -1", () -> b.widen(0, 1, -1));
    c.refuses(b, "widen(0, 1, -50), to -50", () -> b.widen(0, 1, -50));
    c.acts(b, 50, "widen(1, 2, 1)", () -> b.widen(1, 2, 1));
    c.refuses(b, "widen(1, 2, 1), to 51", () -> b.widen(1, 2, 1));
    c.refuses(b, "widen(1, 2, 50), to 100", () -> b.widen(1, 2, 50));
    c.acts(b, 50, "widen(0, 1, 50), from 0", () -> b.widen(0, 1, 50));
    c.acts(b, 0, "widen(1, 2, -50), from 50", () -> b.widen(1, 2, -50));
  }

  private void widenToTheFlow() {
    c.about("promise 5: -9 if its FLOW would be above it");
    Brookmill b = Nets.even(2, 10);
    b.send(0, 7);
    c.acts(b, 7, "widen(0, 1, -3), just to the FLOW", () -> b.widen(0, 1, -3));
    c.acts(b, 7, "widen(0, 1, 0)", () -> b.widen(0, 1, 0));
    c.refuses(b, "widen(0, 1, -1)", () -> b.widen(0, 1, -1));
    c.acts(b, 0, "widen(1, 0, -10), a FLOW below 0", () -> b.widen(1, 0, -10));
    c.refuses(b, "widen(1, 0, -1), a FLOW below 0, but no room", () -> b.widen(1, 0, -1));
  }

  // ==== promise 6

  private void circleOutOfBounds() {
    c.about("promise 6: if room is not 0 to 50");
    Brookmill b = Nets.diamond();
    c.bounds(b, ARGUMENT, 0, 50, "circle()", room -> b.circle(room));
  }

  private void circleWrapsAround() {
    c.about("promise 6: in the circle of all PLACES (0, 1, .., N - 1, 0), forwards");
    for (int many = 2; many <= 9; many++) {
      Brookmill b = Nets.of(many);
      int all = many;
      c.acts(b, all, "circle(7) of " + all, () -> b.circle(7));
      c.same(7, b.pair(all - 1, 0, 0), "from the last place to the first");
      c.same(7 * all, b.told(4), "told(4)");
      c.same(all, b.told(3), "told(3)");
    }
    Brookmill back = Nets.of(3);
    back.circle(7);
    c.same("1:7", back.roomText(0), "nothing backwards");
  }

  private void circleOfTwo() {
    c.about("promise 6: of two PLACES both PAIRS");
    Brookmill b = Nets.of(2, 1, 0, 3);
    c.acts(b, 1, "circle(3)", () -> b.circle(3));
    b.fill(0);
    c.refuses(b, "circle(2)", () -> b.circle(2));
    c.acts(b, 0, "circle(3)", () -> b.circle(3));
  }

  private void circleAsTheFlow() {
    c.about("promise 6: -9 if the FLOW of one of these PAIRS is above room");
    Brookmill last = Nets.even(4, 9);
    last.ends(3, 0);
    last.send(0, 6);
    c.refuses(last, "circle(5), the last PAIR", () -> last.circle(5));
    c.acts(last, 4, "circle(6), just the FLOW", () -> last.circle(6));
    Brookmill first = Nets.even(4, 9);
    first.ends(0, 1);
    first.send(1, 6);
    c.refuses(first, "circle(5), the first PAIR", () -> first.circle(5));
    c.acts(first, 4, "circle(6), just the FLOW", () -> first.circle(6));
    Brookmill other = Nets.even(4, 9);
    other.send(2, 9);
    other.ends(0, 2);
    other.send(2, 9);
    c.acts(other, 4, "circle(0), a FLOW past the circle", () -> other.circle(0));
    Brookmill against = Nets.even(3, 9);
    against.ends(1, 0);
    against.send(0, 9);
    c.acts(against, 3, "circle(0), a FLOW against the circle", () -> against.circle(0));
  }

  private void circleAsAllAre() {
    c.about("promise 6: returns how many of these ROOMS were others: none");
    Brookmill b = Nets.even(5, 4);
    c.acts(b, 0, "circle(4)", () -> b.circle(4));
    b.room(4, 0, 5);
    c.acts(b, 1, "circle(4), the last one another", () -> b.circle(4));
    b.room(0, 4, 5);
    c.acts(b, 0, "circle(4), one past the circle another", () -> b.circle(4));
    c.same(5, b.pair(0, 4, 0), "all others stay");
  }

  // ==== promise 7

  private void strewOutOfBounds() {
    c.about("promise 7: if seed is not 0 to 9999");
    Brookmill b = Nets.diamond();
    c.bounds(b, ARGUMENT, 0, 9999, "strew()", seed -> b.strew(seed));
  }

  private void strewnWrapsAround() {
    c.about("promise 7: what remains divided by 11, less 4, or 0 if that is below 0");
    // 0-1 is strewn by seed + 3, 1-0 by seed + 7: seed 0 leaves 3 and 7
    int[][] rooms = {{0, 3}, {0, 4}, {1, 5}, {2, 6}, {3, 0}, {4, 0}, {5, 0}, {6, 0}, {0, 0},
        {0, 1}, {0, 2}, {0, 3}};
    for (int seed = 0; seed < rooms.length; seed++) {
      Brookmill b = Nets.of(2, 0, 1, 50, 1, 0, 50);
      int with = seed;
      int[] due = rooms[seed];
      c.acts(b, due[0] + due[1], "strew(" + with + ")", () -> b.strew(with));
      c.same(due[0], b.pair(0, 1, 0), "pair(0, 1, 0) by " + seed);
      c.same(due[1], b.pair(1, 0, 0), "pair(1, 0, 0) by " + seed);
    }
  }

  private void strewnOfNine() {
    c.about("promise 7: seed + 7 * a + 3 * b + a * b, with the greatest of all");
    Brookmill b = Nets.of(9);
    b.strew(9999);
    // 9999 is 909 * 11; 8-7: 56 + 21 + 56 is 133, 1 remains; 7-8: 49 + 24 + 56 is 129, 8 remains
    c.same(0, b.pair(8, 7, 0), "pair(8, 7, 0)");
    c.same(4, b.pair(7, 8, 0), "pair(7, 8, 0)");
    // 8-0: 56, 1 remains; 0-8: 24, 2 remains; 8-4: 56 + 12 + 32 is 100, 1 remains; 4-8: 84, 7
    c.same(0, b.pair(8, 0, 0), "pair(8, 0, 0)");
    c.same(0, b.pair(0, 8, 0), "pair(0, 8, 0)");
    c.same(3, b.pair(4, 8, 0), "pair(4, 8, 0)");
    c.same(0, b.pair(8, 8, 0), "pair(8, 8, 0)");
  }

  private void strewTakesTheFlow() {
    c.about("promise 7: the FLOW is 0 everywhere then; the ENDS stay");
    Brookmill b = Nets.even(4, 50);
    b.ends(3, 1);
    b.fill(0);
    b.round(0, 1, 2, 5);
    // a FLOW above the room to come is no hindrance
    int done = b.house(0);
    b.strew(0);
    c.same(done + 1, b.house(0), "house(0)");
    c.same("", b.partsText(), "partsText()");
    c.same("3 1", b.told(1) + " " + b.told(2), "ends");
  }

  // ==== promise 8

  private void turnRoundOfTwo() {
    c.about("promise 8: each PAIR gets ROOM and FLOW of the PAIR turned round, as they were");
    Brookmill b = Nets.of(2, 0, 1, 50, 1, 0, 3);
    c.acts(b, 0, "turnRound() without FLOW", () -> b.turnRound());
    c.same("2 1 0 | 1:3 /  | 0:50 / ", Checks.picture(b), "all");
    b.fill(0);
    c.acts(b, 50, "turnRound()", () -> b.turnRound());
    c.same("2 0 1 | 1:50 / 1:50 | 0:3 / ", Checks.picture(b), "all");
  }

  private void turnRoundFull() {
    c.about("promise 8: returns the VALUE then, all full");
    Brookmill b = Nets.even(9, 50);
    b.fill(0);
    c.acts(b, 400, "turnRound()", () -> b.turnRound());
    c.same("8 0", b.told(1) + " " + b.told(2), "SOURCE and GOAL are exchanged");
    c.acts(b, 400, "turnRound()", () -> b.turnRound());
  }

  private void turnRoundOfRings() {
    c.about("promise 8: rings go round the other way");
    Brookmill b = Nets.even(4, 9);
    b.round(1, 2, 3, 9);
    c.acts(b, 0, "turnRound()", () -> b.turnRound());
    c.same("1-3-2-1:9", b.partsText(), "partsText()");
  }

  // ==== promise 9

  private void swapOutOfPlaces() {
    c.about("promise 9: if one or other is not 0 to N - 1");
    Brookmill b = Nets.diamond();
    c.places(b, "swap(, 1)", place -> b.swap(place, 1));
    c.places(b, "swap(1, )", place -> b.swap(1, place));
  }

  private void swapOfOne() {
    c.about("promise 9: a PLACE, perhaps the same");
    Brookmill b = Nets.diamond();
    b.fill(0);
    String before = Checks.picture(b);
    for (int place = 0; place < 4; place++) {
      int same = place;
      c.acts(b, 3, "swap(" + same + ", " + same + ")", () -> b.swap(same, same));
    }
    c.same(before, Checks.picture(b), "all");
  }

  private void swapOfEnds() {
    c.about("promise 9: what was told of the one is so of the other one: both ENDS");
    Brookmill b = Nets.of(2, 0, 1, 9, 1, 0, 4);
    b.send(0, 6);
    c.acts(b, 0, "swap(0, 1)", () -> b.swap(0, 1));
    c.same("2 1 0 | 1:4 /  | 0:9 / 0:6", Checks.picture(b), "all");
    c.acts(b, 1, "swap(1, 0)", () -> b.swap(1, 0));
    c.same("2 0 1 | 1:9 / 1:6 | 0:4 / ", Checks.picture(b), "all");
  }

  private void swapOfLast() {
    c.about("promise 9: the first and the last of nine PLACES, no ENDS");
    Brookmill b = Nets.of(9, 3, 8, 5, 8, 4, 6, 0, 8, 7, 8, 0, 2);
    b.ends(3, 4);
    b.fill(0);
    c.acts(b, 4, "swap(8, 0)", () -> b.swap(8, 0));
    c.same("4:6 8:2", b.roomText(0), "roomText(0)");
    c.same("0:7", b.roomText(8), "roomText(8)");
    c.same("3-0-4:5", b.partsText(), "partsText()");
  }

  // ==== promise 10

  private void stepOutOfRules() {
    c.about("promise 10: if rule is not 0 to 2");
    Brookmill b = Nets.diamond();
    c.bounds(b, ARGUMENT, 0, 2, "step()", rule -> b.step(rule));
  }

  private void stepWithoutTrack() {
    c.about("promise 10: 0 if there is no TRACK");
    Brookmill none = Nets.of(9);
    Brookmill full = Nets.even(3, 9);
    full.fill(0);
    Brookmill away = Nets.of(3, 1, 0, 9, 2, 1, 9, 2, 0, 9);
    for (int rule = 0; rule <= 2; rule++) {
      int by = rule;
      c.acts(none, 0, "step(" + by + ") without room", () -> none.step(by));
      c.acts(full, 0, "step(" + by + ") with all full", () -> full.step(by));
      c.acts(away, 0, "step(" + by + ") against all rooms", () -> away.step(by));
    }
  }

  private void stepThatFills() {
    c.about("promise 10: returns how much is SENT, 1 and 50");
    Brookmill b = Nets.of(3, 0, 1, 50, 1, 2, 50, 0, 2, 1);
    c.acts(b, 1, "step(0)", () -> b.step(0));
    c.acts(b, 50, "step(0)", () -> b.step(0));
    c.acts(b, 0, "step(0)", () -> b.step(0));
  }

  // ==== promise 11

  private void fillOutOfRules() {
    c.about("promise 11: if rule is not 0 to 2");
    Brookmill b = Nets.diamond();
    c.bounds(b, ARGUMENT, 0, 2, "fill()", rule -> b.fill(rule));
  }

  private void fillWithoutTrack() {
    c.about("promise 11: till there is none: none from the first");
    for (int rule = 0; rule <= 2; rule++) {
      int by = rule;
      Brookmill none = Nets.of(2);
      c.acts(none, 0, "fill(" + by + ")", () -> none.fill(by));
      Brookmill full = Nets.even(4, 9);
      full.fill(by);
      c.acts(full, 0, "fill(" + by + ") again", () -> full.fill(by));
    }
  }

  private void fillOnce() {
    c.about("promise 11: returns how often: once");
    Brookmill b = Nets.of(2, 0, 1, 50);
    c.acts(b, 1, "fill(2)", () -> b.fill(2));
    c.same(50, b.value(), "value()");
  }

  private void fillMany() {
    c.about("promise 11: again and again");
    // by rule 0: 0-8 and 0-p-8 for the seven others
    Brookmill b = Nets.even(9, 50);
    c.acts(b, 8, "fill(0)", () -> b.fill(0));
    c.same(400, b.value(), "value()");
    // by rule 1: 0-1-2-3 by 1, 0-1-3 by 49, 0-2-1-3, taking back, by 1, 0-2-3 by 49
    Brookmill back = Nets.of(4, 0, 1, 50, 0, 2, 50, 1, 2, 1, 1, 3, 50, 2, 3, 50);
    c.acts(back, 4, "fill(1), taking back", () -> back.fill(1));
    c.same(100, back.value(), "value()");
  }

  // ==== promise 12

  private void sendOutOfBounds() {
    c.about("promise 12: if over is not 0 to N - 1; if many is not 0 to 50");
    Brookmill b = Nets.even(4, 50);
    c.places(b, "send(, 1)", over -> b.send(over, 1));
    b.empty();
    c.bounds(b, ARGUMENT, 0, 50, "send(1, )", many -> b.send(1, many));
    c.same(50, b.value(), "value()");
    c.bounds(b, ARGUMENT, 0, 50, "send(0, ) at once", many -> b.send(0, many));
    c.same(100, b.value(), "value()");
  }

  private void sendOverEnds() {
    c.about("promise 12: if it is one of the ENDS, from the SOURCE to the GOAL at once");
    Brookmill b = Nets.even(4, 9);
    b.ends(2, 1);
    c.acts(b, 4, "send(2, 4), over the SOURCE", () -> b.send(2, 4));
    c.same("2-1:4", b.partsText(), "partsText()");
    c.acts(b, 9, "send(1, 5), over the GOAL", () -> b.send(1, 5));
    c.same("2-1:9", b.partsText(), "partsText()");
    c.refuses(b, "send(2, 1)", () -> b.send(2, 1));
    c.refuses(b, "send(1, 1)", () -> b.send(1, 1));
    c.acts(b, 10, "send(0, 1), over place 0, no end here", () -> b.send(0, 1));
    c.same("2-0-1:1 2-1:9", b.partsText(), "partsText()");
  }

  private void sendAsMuchAsIsLeft() {
    c.about("promise 12: -9 if LEFT of one of the PAIRS is less than many");
    Brookmill b = Nets.of(3, 0, 1, 8, 1, 2, 5);
    c.refuses(b, "send(1, 6), the second PAIR", () -> b.send(1, 6));
    c.refuses(b, "send(1, 9), both PAIRS", () -> b.send(1, 9));
    c.acts(b, 5, "send(1, 5), just what is left", () -> b.send(1, 5));
    c.refuses(b, "send(1, 1)", () -> b.send(1, 1));
    Brookmill first = Nets.of(3, 0, 1, 5, 1, 2, 8);
    c.refuses(first, "send(1, 6), the first PAIR", () -> first.send(1, 6));
    c.acts(first, 5, "send(1, 5), just what is left", () -> first.send(1, 5));
  }

  private void sendNothing() {
    c.about("promise 12: 0 is a number, too");
    Brookmill b = Nets.diamond();
    b.fill(0);
    for (int over = 0; over < 4; over++) {
      int by = over;
      c.acts(b, 11, "send(" + by + ", 0) with all full", () -> b.send(by, 0));
    }
    c.same("0-1-2-3:3 0-1-3:3 0-2-3:5", b.partsText(), "partsText()");
  }

  private void sendTwiceTheRoom() {
    c.about("promise 12: LEFT is more than the ROOM, where it flows the other way");
    Brookmill b = Nets.even(3, 50);
    b.round(2, 1, 0, 50);
    c.acts(b, 50, "send(1, 50)", () -> b.send(1, 50));
    c.acts(b, 100, "send(1, 50) again", () -> b.send(1, 50));
    c.refuses(b, "send(1, 1)", () -> b.send(1, 1));
    c.same("0-1-2:50 0-2:50", b.partsText(), "partsText()");
  }

  private void sendOfTwo() {
    c.about("promise 12: of two PLACES each one is one of the ENDS");
    Brookmill b = Nets.of(2, 0, 1, 3);
    c.acts(b, 1, "send(0, 1)", () -> b.send(0, 1));
    c.acts(b, 3, "send(1, 2)", () -> b.send(1, 2));
    c.refuses(b, "send(1, 1)", () -> b.send(1, 1));
  }

  // ==== promise 13

  private void roundOutOfBounds() {
    c.about("promise 13: if one, other or third is not 0 to N - 1; if many is not 0 to 50");
    Brookmill b = Nets.even(5, 50);
    int last = 4;
    for (int out : new int[] {-1, last + 1, Checks.LOWEST, Checks.HIGHEST}) {
      c.fails(b, BOUNDS, "round(out, 1, 2, 1)", () -> b.round(out, 1, 2, 1));
      c.fails(b, BOUNDS, "round(1, out, 2, 1)", () -> b.round(1, out, 2, 1));
      c.fails(b, BOUNDS, "round(1, 2, out, 1)", () -> b.round(1, 2, out, 1));
    }
    c.bounds(b, ARGUMENT, 0, 50, "round(0, 4, 2, )", many -> b.round(0, 4, 2, many));
    c.same("0-4-2-0:50", b.partsText(), "partsText()");
  }

  private void roundOfTwoTheSame() {
    c.about("promise 13: if two of the three are the same");
    Brookmill b = Nets.even(4, 9);
    c.fails(b, ARGUMENT, "round(1, 1, 2, 0)", () -> b.round(1, 1, 2, 0));
    c.fails(b, ARGUMENT, "round(1, 2, 2, 0)", () -> b.round(1, 2, 2, 0));
    c.fails(b, ARGUMENT, "round(1, 2, 1, 0)", () -> b.round(1, 2, 1, 0));
    c.fails(b, ARGUMENT, "round(1, 1, 1, 0)", () -> b.round(1, 1, 1, 0));
  }

  private void roundAsMuchAsIsLeft() {
    c.about("promise 13: -9 if LEFT of one of the three PAIRS is less than many");
    Brookmill b = Nets.of(4, 0, 1, 3, 1, 2, 8, 2, 0, 8);
    c.refuses(b, "round(0, 1, 2, 4), from one to other", () -> b.round(0, 1, 2, 4));
    c.refuses(b, "round(2, 0, 1, 4), from other to third", () -> b.round(2, 0, 1, 4));
    c.refuses(b, "round(1, 2, 0, 4), from third to one", () -> b.round(1, 2, 0, 4));
    c.acts(b, 3, "round(0, 1, 2, 3), just what is left", () -> b.round(0, 1, 2, 3));
    c.refuses(b, "round(0, 1, 2, 1)", () -> b.round(0, 1, 2, 1));
    c.refuses(b, "round(0, 2, 1, 4), taking back too much", () -> b.round(0, 2, 1, 4));
  }

  private void roundNothing() {
    c.about("promise 13: 0 is a number, too");
    Brookmill b = Nets.of(4);
    c.acts(b, 0, "round(1, 2, 3, 0) without room", () -> b.round(1, 2, 3, 0));
    Brookmill full = Nets.diamond();
    full.fill(0);
    c.acts(full, 5, "round(0, 1, 2, 0) with all full", () -> full.round(0, 1, 2, 0));
  }

  private void roundTakenBack() {
    c.about("promise 13: returns how many PAIRS have a FLOW above 0 then: none again");
    Brookmill b = Nets.of(3, 0, 1, 9, 1, 2, 9, 2, 0, 9);
    c.acts(b, 3, "round(0, 1, 2, 9)", () -> b.round(0, 1, 2, 9));
    c.acts(b, 0, "round(2, 1, 0, 9), over PAIRS without ROOM", () -> b.round(2, 1, 0, 9));
    c.refuses(b, "round(2, 1, 0, 1)", () -> b.round(2, 1, 0, 1));
    Brookmill even = Nets.even(3, 50);
    c.acts(even, 3, "round(0, 1, 2, 50)", () -> even.round(0, 1, 2, 50));
    c.acts(even, 0, "round(1, 0, 2, 50)", () -> even.round(1, 0, 2, 50));
    c.acts(even, 3, "round(1, 0, 2, 50)", () -> even.round(1, 0, 2, 50));
  }

  private void roundOfTwoPlaces() {
    c.about("promise 13: of two PLACES two of the three are always the same");
    Brookmill b = Nets.even(2, 9);
    c.fails(b, ARGUMENT, "round(0, 1, 0, 1)", () -> b.round(0, 1, 0, 1));
    c.fails(b, BOUNDS, "round(0, 1, 2, 1)", () -> b.round(0, 1, 2, 1));
  }

  private void roundPastTheEnds() {
    c.about("promise 13: the SOURCE and the GOAL are PLACES like others here");
    Brookmill b = Nets.even(3, 9);
    c.acts(b, 3, "round(0, 2, 1, 4)", () -> b.round(0, 2, 1, 4));
    c.same(0, b.value(), "value()");
    c.same(4, b.pair(0, 2, 1), "pair(0, 2, 1)");
  }

  // ==== promise 14

  private void peelNothing() {
    c.about("promise 14: 0 if there is none");
    Brookmill b = Nets.even(9, 50);
    c.acts(b, 0, "peel()", () -> b.peel());
    c.acts(b, 0, "peel() again", () -> b.peel());
  }

  private void peelLast() {
    c.about("promise 14: takes the first one of the PARTS away from the FLOW, till none is left");
    Brookmill b = Nets.diamond();
    b.fill(0);
    c.acts(b, 3, "peel()", () -> b.peel());
    c.same("4 0 3 | 1:6 2:5 / 1:3 2:5 | 2:4 3:3 / 3:3 | 1:2 3:9 / 3:5 |  / ",
        Checks.picture(b), "all");
    b.peel();
    c.acts(b, 5, "peel(), the last one", () -> b.peel());
    c.same("4 0 3 | 1:6 2:5 /  | 2:4 3:3 /  | 1:2 3:9 /  |  / ", Checks.picture(b), "all");
    c.acts(b, 0, "peel(), none", () -> b.peel());
    c.same(11, b.most(0), "most(0)");
  }

  private void peelOfRing() {
    c.about("promise 14: of a RING the VALUE stays");
    Brookmill b = Nets.even(5, 9);
    b.send(1, 3);
    b.round(1, 2, 3, 6);
    c.acts(b, 6, "peel()", () -> b.peel());
    c.same(3, b.value(), "value()");
    c.same("0-1-4:3", b.partsText(), "partsText()");
  }

  // ==== promise 15

  private void emptyOfNothing() {
    c.about("promise 15: returns the VALUE till then: 0");
    Brookmill b = Nets.diamond();
    c.acts(b, 0, "empty()", () -> b.empty());
    b.fill(0);
    b.empty();
    c.acts(b, 0, "empty() again", () -> b.empty());
  }

  private void emptyOfRings() {
    c.about("promise 15: the FLOW is 0 everywhere then, that of rings, too");
    Brookmill b = Nets.even(4, 9);
    b.round(1, 2, 3, 9);
    c.acts(b, 0, "empty()", () -> b.empty());
    c.same(0, b.pair(2, 3, 1), "pair(2, 3, 1)");
    c.same(0, b.pair(3, 2, 1), "pair(3, 2, 1)");
    c.same("", b.partsText(), "partsText()");
  }

  private void emptyOfTheMost() {
    c.about("promise 15: returns the VALUE till then: the greatest of all");
    Brookmill b = Nets.even(9, 50);
    b.fill(2);
    c.acts(b, 400, "empty()", () -> b.empty());
    c.same(3600, b.told(4), "the ROOMS stay");
  }
}
