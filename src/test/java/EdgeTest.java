/** The description's edges: a test for each of its sentences that names one. */
public final class EdgeTest {
  private static final Class<?> BOUNDS = Checks.BOUNDS;
  private static final Class<?> ARGUMENT = Checks.ARGUMENT;
  private static final int LAST_CALL = 512;

  private final Checks c = new Checks();

  private EdgeTest() {
  }

  public static void main(String[] args) {
    EdgeTest test = new EdgeTest();
    test.ofUse();
    test.ofPlacesAndRooms();
    test.ofFlow();
    test.ofTracks();
    test.ofParts();
    test.ofActs();
    test.c.end();
  }

  private void ofUse() {
    lastCallOfActs();
    lastCallOfRefused();
    lastCallOfThrown();
    lastCallOfKnocks();
  }

  private void ofPlacesAndRooms() {
    fewestAndMostPlaces();
    endsAtFirst();
    pairOfOnePlace();
    leastAndMostRoom();
    emptyAndFullSet();
    smallestAndLargestCut();
    allCutsTheSame();
  }

  private void ofFlow() {
    flowTurnedRound();
    fullPair();
    leftOfPairTurnedRound();
  }

  private void ofTracks() {
    leftJustAboveZero();
    leftWithoutRoom();
    shortestAndLongestTrack();
    noPlaceTwice();
    fewestPlacesTied();
    aheadThoughLonger();
    oneTrackAlone();
    filledWithSeveralLeast();
    mostWithoutTrack();
    mostWhateverFlows();
  }

  private void ofParts() {
    noParts();
    wayOfTheValueAlone();
    ringOnTheWay();
    ringThroughTheSource();
    ringPastTheGoal();
    ringBegunAtTheGoal();
    ringBehindItsBegin();
    amountOfFirstAndLastPair();
    longestParts();
  }

  private void ofActs() {
    refusedIsCountedAlone();
    doneThoughAllStays();
    thrownIsNotCounted();
    refusedQuestionIsNotCounted();
    questionsChangeNothing();
    firstNamedException();
    exceptionAheadOfRefusal();
    exceptionChangesNothing();
  }

  // ==== What it is: an object is used for at most 512 calls after it has been made

  private void lastCallOfActs() {
    c.about("512 calls, acts");
    c.same(511, usedButForOne().house(0), "the 512th call, house(0)");
    c.same(true, usedButForOne().isSound(), "the 512th call, isSound()");
    // strewn by 510 last: 513 is 46 * 11 + 7, and 7 less 4 is 3
    c.same(3, usedButForOne().pair(0, 1, 0), "the 512th call, pair(0, 1, 0)");
    c.same(0, usedButForOne().step(0), "the 512th call, step(0)");
  }

  /** 511 calls, the last ones of them strew(510) and fill(0). */
  private static Brookmill usedButForOne() {
    Brookmill b = new Brookmill();
    b.places(9);
    for (int call = 2; call < LAST_CALL; call += 2) {
      b.strew(call);
      b.fill(call % 3);
    }
    return b;
  }

  private void lastCallOfRefused() {
    c.about("512 calls, refused");
    Brookmill b = new Brookmill();
    for (int call = 1; call < LAST_CALL; call++) {
      c.same(-9, b.widen(0, 5, -1), "widen(0, 5, -1)");
    }
    c.same(511, b.house(1), "the 512th call, house(1)");
  }

  private void lastCallOfThrown() {
    c.about("512 calls, thrown");
    Brookmill b = new Brookmill();
    for (int call = 1; call < LAST_CALL; call++) {
      c.same("throws.IllegalArgumentException", Checks.answer(() -> b.step(3)), "step(3)");
    }
    c.same(0, b.house(0), "the 512th call, house(0)");
  }

  private void lastCallOfKnocks() {
    c.about("512 calls, knocks");
    Brookmill b = new Brookmill();
    for (int call = 1; call <= LAST_CALL; call++) {
      c.same(call, b.knock(), "knock()");
    }
  }

  // ==== 1. Places, rooms

  private void fewestAndMostPlaces() {
    c.about("N is 2 to 9, at first 6");
    c.same(6, new Brookmill().told(0), "told(0) of a new object");
    for (int many = 2; many <= 9; many++) {
      Brookmill b = new Brookmill();
      b.places(many);
      c.same(many, b.told(0), "told(0)");
      c.places(b, "layer of " + many, place -> b.layer(place));
    }
  }

  private void endsAtFirst() {
    c.about("the SOURCE, at first 0, and the GOAL, at first N - 1");
    c.same("0 5", ends(new Brookmill()), "ends of a new object");
    for (int many = 2; many <= 9; many++) {
      Brookmill b = new Brookmill();
      b.ends(4, 1);
      b.places(many);
      c.same("0 " + (many - 1), ends(b), "ends of " + many);
    }
  }

  private static String ends(Brookmill b) {
    return b.told(1) + " " + b.told(2);
  }

  private void pairOfOnePlace() {
    c.about("a PAIR is two unlike PLACES");
    Brookmill b = Nets.even(4, 9);
    b.step(0);
    for (int place = 0; place < 4; place++) {
      int same = place;
      c.fails(b, ARGUMENT, "room()", () -> b.room(same, same, 0));
      c.fails(b, ARGUMENT, "widen()", () -> b.widen(same, same, 0));
      c.fails(b, ARGUMENT, "ends()", () -> b.ends(same, same));
      c.fails(b, ARGUMENT, "would()", () -> b.would(same, same, 0));
      c.fails(b, ARGUMENT, "between()", () -> b.between(same, same));
    }
    c.same(12, b.told(3), "pairs with a room");
  }

  private void leastAndMostRoom() {
    c.about("a ROOM, a whole number of 0 to 50, at first 0");
    Brookmill b = new Brookmill();
    for (int from = 0; from < 6; from++) {
      for (int to = 0; to < 6; to++) {
        c.same(0, b.pair(from, to, 0), "room at first");
      }
    }
    c.bounds(b, ARGUMENT, 0, 50, "room(0, 5)", room -> b.room(0, 5, room));
    c.same(50, b.pair(0, 5, 0), "pair(0, 5, 0)");
    c.bounds(b, ARGUMENT, 0, 50, "circle()", room -> b.circle(room));
    c.same(350, b.told(4), "told(4)");
  }

  private void emptyAndFullSet() {
    c.about("a SET is told as the sum of 2^p for each PLACE p in it");
    for (int many = 2; many <= 9; many++) {
      Brookmill b = Nets.even(many, 1);
      int full = (1 << many) - 1;
      for (int set : new int[] {0, full}) {
        c.asks(b, -9, "cut(" + set + ")", () -> b.cut(set));
        c.asks(b, -9, "through(" + set + ")", () -> b.through(set));
        c.asks(b, false, "isLeast(" + set + ")", () -> b.isLeast(set));
      }
      c.bounds(b, ARGUMENT, 0, full, "cut() of " + many, set -> b.cut(set));
      c.bounds(b, ARGUMENT, 0, full, "through() of " + many, set -> b.through(set));
      c.bounds(b, ARGUMENT, 0, full, "isLeast() of " + many, set -> b.isLeast(set));
    }
  }

  private void smallestAndLargestCut() {
    c.about("a CUT is a SET with the SOURCE and without the GOAL");
    Brookmill b = Nets.diamond();
    c.asks(b, 11, "cut(1), the SOURCE alone", () -> b.cut(1));
    c.asks(b, 12, "cut(7), all but the GOAL", () -> b.cut(7));
    c.asks(b, -9, "cut(9), both ENDS", () -> b.cut(9));
    c.asks(b, -9, "cut(6), none of the ENDS", () -> b.cut(6));
    c.asks(b, -9, "cut(8), the GOAL alone", () -> b.cut(8));
    Brookmill two = Nets.of(2, 0, 1, 7, 1, 0, 5);
    c.asks(two, 7, "cut(1) of two", () -> two.cut(1));
    c.asks(two, -9, "cut(2) of two", () -> two.cut(2));
    two.ends(1, 0);
    c.asks(two, -9, "cut(1) of two, ends exchanged", () -> two.cut(1));
    c.asks(two, 5, "cut(2) of two, ends exchanged", () -> two.cut(2));
  }

  private void allCutsTheSame() {
    c.about("a LEAST CUT is one that lets through as little as any");
    for (int many = 2; many <= 9; many++) {
      Brookmill b = Nets.of(many);
      c.asks(b, 1 << many - 2, "leasts() of " + many, () -> b.leasts());
      c.asks(b, true, "isLeast(1) of " + many, () -> b.isLeast(1));
      int allButGoal = (1 << many - 1) - 1;
      c.asks(b, true, "isLeast() of all but the GOAL", () -> b.isLeast(allButGoal));
    }
  }

  // ==== 2. Flow

  private void flowTurnedRound() {
    c.about("that of the PAIR turned round is the same with the other sign");
    Brookmill b = Nets.of(3, 0, 2, 50);
    c.same(0, b.pair(2, 0, 1), "pair(2, 0, 1) at first");
    b.fill(0);
    c.asks(b, 50, "pair(0, 2, 1)", () -> b.pair(0, 2, 1));
    c.asks(b, -50, "pair(2, 0, 1)", () -> b.pair(2, 0, 1));
    b.empty();
    c.asks(b, 0, "pair(2, 0, 1)", () -> b.pair(2, 0, 1));
  }

  private void fullPair() {
    c.about("the FLOW is never greater than the PAIR's ROOM");
    Brookmill b = Nets.of(3, 0, 2, 5);
    c.acts(b, 5, "send(0, 5)", () -> b.send(0, 5));
    c.refuses(b, "send(0, 1)", () -> b.send(0, 1));
    c.refuses(b, "room(0, 2, 4)", () -> b.room(0, 2, 4));
    c.refuses(b, "widen(0, 2, -1)", () -> b.widen(0, 2, -1));
    c.acts(b, 0, "step(0)", () -> b.step(0));
    c.same(0, b.pair(0, 2, 2), "LEFT of a full pair");
  }

  private void leftOfPairTurnedRound() {
    c.about("LEFT of a PAIR: its ROOM less its FLOW");
    Brookmill b = Nets.even(3, 50);
    b.send(0, 50);
    c.asks(b, 0, "pair(0, 2, 2), full", () -> b.pair(0, 2, 2));
    c.asks(b, 100, "pair(2, 0, 2), the most", () -> b.pair(2, 0, 2));
    c.asks(b, 50, "pair(0, 1, 2), without flow", () -> b.pair(0, 1, 2));
    b.room(2, 0, 0);
    c.asks(b, 50, "pair(2, 0, 2), without room", () -> b.pair(2, 0, 2));
  }

  private void leftJustAboveZero() {
    c.about("of each PAIR of one and the next one LEFT is above 0");
    Brookmill b = Nets.of(3, 0, 1, 2, 1, 2, 1);
    c.asks(b, "0-1-2", "track(0) with 1 left", () -> b.track(0));
    c.acts(b, 1, "step(0)", () -> b.step(0));
    c.asks(b, "", "track(0) with 0 left", () -> b.track(0));
    b.widen(1, 2, 1);
    c.asks(b, "0-1-2", "track(0) with 1 left again", () -> b.track(0));
  }

  private void leftWithoutRoom() {
    c.about("a TRACK goes over a PAIR without ROOM, if there is LEFT");
    // 0-1-2-3 is full; 2-1 has no room, but what flows from 1 to 2 can be taken back
    Brookmill b = Nets.of(4, 0, 1, 1, 1, 2, 1, 2, 3, 1, 0, 2, 1, 1, 3, 1);
    b.step(1);
    for (int rule = 0; rule <= 2; rule++) {
      int by = rule;
      c.asks(b, "0-2-1-3", "track(" + by + ")", () -> b.track(by));
    }
    c.acts(b, 1, "step(2)", () -> b.step(2));
    c.same(0, b.pair(1, 2, 1), "pair(1, 2, 1)");
    c.same(2, b.value(), "value()");
  }

  private void shortestAndLongestTrack() {
    c.about("a TRACK: the first one the SOURCE, the last one the GOAL");
    Brookmill two = Nets.of(2, 0, 1, 1);
    Brookmill nine = Nets.of(9);
    nine.circle(1);
    for (int rule = 0; rule <= 2; rule++) {
      int by = rule;
      c.asks(two, "0-1", "track(" + by + ") of two", () -> two.track(by));
      c.asks(nine, "0-1-2-3-4-5-6-7-8", "track(" + by + ") of nine", () -> nine.track(by));
    }
    nine.ends(8, 7);
    c.asks(nine, "8-0-1-2-3-4-5-6-7", "track(1) round the circle", () -> nine.track(1));
    nine.ends(8, 0);
    c.asks(nine, "8-0", "track(1) over the circle's last pair", () -> nine.track(1));
  }

  private void noPlaceTwice() {
    c.about("none twice");
    // from 1 to 2 and from 3 to 2 one can but come back
    Brookmill b = Nets.of(5, 0, 1, 1, 1, 2, 1, 2, 1, 1, 2, 0, 1, 1, 3, 1, 3, 2, 1, 3, 4, 1);
    for (int rule = 0; rule <= 2; rule++) {
      int by = rule;
      c.asks(b, "0-1-3-4", "track(" + by + ")", () -> b.track(by));
    }
  }

  private void fewestPlacesTied() {
    c.about("0 of those with the fewest PLACES the one that is AHEAD of all others");
    // 0-1-4-5, 0-2-3-5 and 0-2-4-5 have four places
    Brookmill b = Nets.of(6, 0, 1, 1, 1, 4, 1, 4, 5, 1, 0, 2, 1, 2, 3, 1, 3, 5, 1, 2, 4, 1);
    c.asks(b, "0-1-4-5", "track(0)", () -> b.track(0));
    b.room(0, 1, 0);
    c.asks(b, "0-2-3-5", "track(0), unlike at the third place", () -> b.track(0));
    // fewer places, though all others are ahead of it
    b.room(0, 1, 1);
    b.room(0, 5, 1);
    c.asks(b, "0-5", "track(0) of fewest places", () -> b.track(0));
  }

  private void aheadThoughLonger() {
    c.about("a TRACK is AHEAD, if at the first place at which they are unlike it has the lesser");
    // 0-1-2-3 is ahead of 0-1-3, and that of 0-3, though they have fewer places
    Brookmill b = Nets.of(4, 0, 3, 1, 0, 1, 1, 1, 3, 1, 1, 2, 1, 2, 3, 1);
    c.asks(b, "0-1-2-3", "track(1)", () -> b.track(1));
    c.asks(b, "0-3", "track(2)", () -> b.track(2));
    b.ends(3, 0);
    b.turnRound();
    // now goal 3 is told as 3 again, the pairs are turned: 3-0, 1-0, 3-1, 2-1, 3-2
    b.ends(3, 0);
    c.asks(b, "3-0", "track(1) to the least place", () -> b.track(1));
    c.asks(b, "3-2-1-0", "track(2) to the least place", () -> b.track(2));
  }

  private void oneTrackAlone() {
    c.about("by each RULE the one TRACK that there is");
    Brookmill b = Nets.line();
    for (int rule = 0; rule <= 2; rule++) {
      int by = rule;
      c.asks(b, "0-1-2-3-4", "track(" + by + ")", () -> b.track(by));
    }
  }

  private void filledWithSeveralLeast() {
    c.about("the least LEFT of its PAIRS is SENT along it");
    Brookmill b = Nets.line();
    c.acts(b, 3, "step(0), two pairs of 3 left", () -> b.step(0));
    c.same("4 0 0 2", left(b), "LEFT along the line");
    Brookmill one = Nets.of(2, 0, 1, 50);
    c.acts(one, 50, "step(0), the most room", () -> one.step(0));
    Brookmill back = Nets.even(3, 50);
    back.round(2, 1, 0, 50);
    // 0-1 and 1-2 carry 50 the other way, so 100 are left of each
    c.acts(back, 100, "step(1), the most that is left", () -> back.step(1));
  }

  private static String left(Brookmill line) {
    return line.pair(0, 1, 2) + " " + line.pair(1, 2, 2) + " " + line.pair(2, 3, 2) + " "
        + line.pair(3, 4, 2);
  }

  private void mostWithoutTrack() {
    c.about("the MOST by a RULE: the VALUE, if there is no TRACK from the first");
    Brookmill b = Nets.of(3, 2, 0, 9, 2, 1, 9, 1, 0, 9);
    for (int rule = 0; rule <= 2; rule++) {
      int by = rule;
      c.asks(b, 0, "most(" + by + ")", () -> b.most(by));
    }
  }

  private void mostWhateverFlows() {
    c.about("the MOST is counted from a FLOW of 0 everywhere on");
    Brookmill b = Nets.even(4, 9);
    b.round(3, 2, 0, 9);
    b.send(1, 9);
    for (int rule = 0; rule <= 2; rule++) {
      int by = rule;
      c.asks(b, 27, "most(" + by + ")", () -> b.most(by));
    }
    b.fill(1);
    c.asks(b, 27, "most(0) with all full", () -> b.most(0));
  }

  // ==== 2. Flow: its parts

  private void noParts() {
    c.about("as long as there is a FLOW above 0");
    Brookmill b = Nets.even(9, 50);
    c.asks(b, "", "partsText()", () -> b.partsText());
    c.acts(b, 0, "peel()", () -> b.peel());
  }

  private void wayOfTheValueAlone() {
    c.about("AMOUNT: of a WAY, if that is less, the VALUE of what is left then");
    // 0-1-2 carries 15, of which 10 come back from 2 to 0
    Brookmill b = Nets.even(3, 50);
    b.send(1, 5);
    b.round(0, 1, 2, 10);
    c.asks(b, "0-1-2:5 0-1-2-0:10", "partsText()", () -> b.partsText());
    c.acts(b, 5, "peel(), the VALUE", () -> b.peel());
    c.acts(b, 10, "peel(), the rest", () -> b.peel());
    // just as much as the VALUE
    b.send(1, 5);
    c.asks(b, "0-1-2:5", "partsText()", () -> b.partsText());
  }

  private void ringOnTheWay() {
    c.about("otherwise the PLACES from where one was first at that one on are a RING");
    Brookmill b = Nets.even(5, 9);
    b.send(1, 3);
    b.round(1, 2, 3, 6);
    c.asks(b, "1-2-3-1:6 0-1-4:3", "partsText()", () -> b.partsText());
    c.acts(b, 6, "peel(), more than the VALUE", () -> b.peel());
    c.acts(b, 3, "peel()", () -> b.peel());
  }

  private void ringThroughTheSource() {
    c.about("a PLACE where one was: the SOURCE, too");
    Brookmill b = Nets.even(4, 9);
    b.send(3, 5);
    b.round(0, 1, 2, 2);
    c.asks(b, "0-1-2-0:2 0-3:5", "partsText()", () -> b.partsText());
  }

  private void ringPastTheGoal() {
    c.about("it ends with a RING, also if the GOAL comes");
    Brookmill b = Nets.even(4, 9);
    b.round(3, 1, 2, 4);
    c.asks(b, "1-2-3-1:4", "partsText()", () -> b.partsText());
    c.asks(b, 1, "parts(true)", () -> b.parts(true));
    c.asks(b, 0, "parts(false)", () -> b.parts(false));
    Brookmill both = Nets.even(3, 9);
    both.round(0, 2, 1, 9);
    c.asks(both, "0-2-1-0:9", "partsText() past both ENDS", () -> both.partsText());
  }

  private void ringBegunAtTheGoal() {
    c.about("begun at the PLACE with the least number from which there is one: the GOAL, too");
    Brookmill b = Nets.even(3, 9);
    b.ends(1, 0);
    b.round(0, 2, 1, 8);
    c.asks(b, "0-2-1-0:8", "partsText()", () -> b.partsText());
  }

  private void ringBehindItsBegin() {
    c.about("the RING is from where one was first at that one on");
    // begun at 0 one comes to 1 a second time ahead of 0
    Brookmill b = Nets.even(6, 9);
    b.round(1, 2, 3, 2);
    b.round(0, 1, 4, 5);
    c.asks(b, "1-2-3-1:2 0-1-4-0:5", "partsText()", () -> b.partsText());
  }

  private void amountOfFirstAndLastPair() {
    c.about("AMOUNT: the least FLOW of the PAIRS on it: of the first one, of the last one");
    Brookmill way = Nets.of(4, 0, 1, 2, 0, 2, 3, 2, 1, 3, 1, 3, 5);
    way.fill(0);
    c.asks(way, "0-1-3:2 0-2-1-3:3", "partsText(), the first PAIR", () -> way.partsText());
    Brookmill back = Nets.of(4, 0, 1, 5, 1, 2, 3, 1, 3, 2, 2, 3, 3);
    back.fill(0);
    c.asks(back, "0-1-2-3:3 0-1-3:2", "partsText(), the last PAIRS", () -> back.partsText());
    Brookmill ring = Nets.even(6, 9);
    ring.round(1, 2, 3, 2);
    ring.round(2, 3, 4, 5);
    // 1-2 and 3-1 carry 2, 2-3 carries 7
    c.asks(ring, "1-2-3-1:2 2-3-4-2:5", "partsText() of rings", () -> ring.partsText());
  }

  private void longestParts() {
    c.about("till the GOAL or a PLACE where one was comes: all nine PLACES");
    Brookmill way = Nets.of(9);
    way.circle(50);
    way.fill(0);
    c.asks(way, "0-1-2-3-4-5-6-7-8:50", "partsText()", () -> way.partsText());
    Brookmill ring = Nets.even(9, 50);
    for (int place = 1; place < 8; place++) {
      ring.round(0, place, place + 1, 50);
    }
    c.asks(ring, "0-1-2-3-4-5-6-7-8-0:50", "partsText()", () -> ring.partsText());
    c.acts(ring, 50, "peel()", () -> ring.peel());
    c.same("", ring.partsText(), "partsText()");
  }

  // ==== 3. Acts

  private void refusedIsCountedAlone() {
    c.about("-9: nothing is changed then, but that it is counted (house() by 1)");
    Brookmill b = Nets.diamond();
    b.fill(0);
    c.refuses(b, "room(0, 1, 5)", () -> b.room(0, 1, 5));
    c.refuses(b, "widen(0, 1, -1)", () -> b.widen(0, 1, -1));
    c.refuses(b, "circle(2)", () -> b.circle(2));
    c.refuses(b, "send(1, 1)", () -> b.send(1, 1));
    c.refuses(b, "send(0, 1)", () -> b.send(0, 1));
    c.refuses(b, "round(0, 1, 2, 1)", () -> b.round(0, 1, 2, 1));
    c.asks(b, 6, "house(1)", () -> b.house(1));
  }

  private void doneThoughAllStays() {
    c.about("each other call of an ACT is counted as done, also if all stays as it was");
    Brookmill b = new Brookmill();
    String before = Checks.picture(b);
    c.acts(b, 6, "places(6)", () -> b.places(6));
    c.acts(b, 0, "ends(0, 5)", () -> b.ends(0, 5));
    c.acts(b, 0, "room(0, 1, 0)", () -> b.room(0, 1, 0));
    c.acts(b, 0, "widen(0, 1, 0)", () -> b.widen(0, 1, 0));
    c.acts(b, 0, "circle(0)", () -> b.circle(0));
    c.acts(b, 5, "swap(3, 3)", () -> b.swap(3, 3));
    c.acts(b, 5, "swap(3, 4)", () -> b.swap(3, 4));
    c.acts(b, 0, "step(1)", () -> b.step(1));
    c.acts(b, 0, "fill(1)", () -> b.fill(1));
    c.acts(b, 0, "send(1, 0)", () -> b.send(1, 0));
    c.acts(b, 0, "send(5, 0)", () -> b.send(5, 0));
    c.acts(b, 0, "round(1, 2, 3, 0)", () -> b.round(1, 2, 3, 0));
    c.acts(b, 0, "peel()", () -> b.peel());
    c.acts(b, 0, "empty()", () -> b.empty());
    c.same(before, Checks.picture(b), "all");
    c.asks(b, 14, "house(0)", () -> b.house(0));
    Brookmill two = Nets.of(2);
    // 3 remains for 0-1 and 7 for 1-0: rooms 0 and 3, and the same when told again
    c.acts(two, 3, "strew(0)", () -> two.strew(0));
    c.acts(two, 3, "strew(0) again", () -> two.strew(0));
    c.acts(two, 0, "turnRound()", () -> two.turnRound());
  }

  private void thrownIsNotCounted() {
    c.about("one that threw is not counted");
    Brookmill b = Nets.diamond();
    b.step(0);
    int done = b.house(0);
    c.fails(b, ARGUMENT, "places(1)", () -> b.places(1));
    c.fails(b, BOUNDS, "ends(4, 0)", () -> b.ends(4, 0));
    c.fails(b, ARGUMENT, "room(0, 1, 51)", () -> b.room(0, 1, 51));
    c.fails(b, ARGUMENT, "widen(0, 1, 51)", () -> b.widen(0, 1, 51));
    c.fails(b, ARGUMENT, "circle(51)", () -> b.circle(51));
    c.fails(b, ARGUMENT, "strew(10000)", () -> b.strew(10000));
    c.fails(b, BOUNDS, "swap(4, 0)", () -> b.swap(4, 0));
    c.fails(b, ARGUMENT, "step(3)", () -> b.step(3));
    c.fails(b, ARGUMENT, "fill(3)", () -> b.fill(3));
    c.fails(b, ARGUMENT, "send(0, 51)", () -> b.send(0, 51));
    c.fails(b, ARGUMENT, "round(0, 1, 2, 51)", () -> b.round(0, 1, 2, 51));
    c.asks(b, done, "house(0)", () -> b.house(0));
    c.asks(b, 0, "house(1)", () -> b.house(1));
  }

  private void refusedQuestionIsNotCounted() {
    c.about("a -9 of theirs is not counted");
    Brookmill b = Nets.diamond();
    int done = b.house(0);
    c.asks(b, -9, "cut(0)", () -> b.cut(0));
    c.asks(b, -9, "through(15)", () -> b.through(15));
    c.asks(b, -9, "would(3, 0, -1)", () -> b.would(3, 0, -1));
    c.asks(b, done, "house(0)", () -> b.house(0));
    c.asks(b, 0, "house(1)", () -> b.house(1));
  }

  private void questionsChangeNothing() {
    c.about("all other methods but knock() change nothing");
    Brookmill asked = begun();
    Brookmill left = begun();
    askAll(asked);
    c.same(Checks.picture(left), Checks.picture(asked), "all");
    c.same(left.digest(), asked.digest(), "digest()");
    for (int rule = 0; rule <= 2; rule++) {
      c.same(left.track(rule), asked.track(rule), "track()");
      c.same(left.step(rule), asked.step(rule), "step()");
    }
    c.same(left.digest(), asked.digest(), "digest()");
  }

  private static Brookmill begun() {
    Brookmill b = new Brookmill();
    b.strew(321);
    b.step(1);
    b.round(0, 1, 2, 50);
    b.turnRound();
    b.knock();
    return b;
  }

  private static void askAll(Brookmill b) {
    for (int place = 0; place < 6; place++) {
      for (int to = 0; to < 6; to++) {
        if (to != place) {
          b.would(place, to, 1);
          b.between(place, to);
        }
        b.pair(place, to, 2);
      }
      b.ofPlace(place, 3);
      b.roomText(place);
      b.flowText(place);
      b.layer(place);
    }
    for (int set = 0; set < 64; set++) {
      b.cut(set);
      b.isLeast(set);
      b.through(set);
    }
    for (int number = 0; number <= 2; number++) {
      b.told(number);
      b.house(number);
      b.nthLeast(number);
      b.most(number);
      b.track(number);
      b.apart(number % 2);
      b.end(number > 0);
      b.parts(number > 0);
    }
    b.least();
    b.leasts();
    b.value();
    b.isMost();
    b.partsText();
    b.about();
    b.isSound();
    b.digest();
  }

  private void firstNamedException() {
    c.about("if several exceptions apply, the one that is named first is thrown");
    Brookmill b = Nets.diamond();
    b.step(0);
    for (int out : new int[] {-1, 4, Checks.LOWEST, Checks.HIGHEST}) {
      c.fails(b, BOUNDS, "ends()", () -> b.ends(out, out));
      c.fails(b, BOUNDS, "room() of one place", () -> b.room(out, out, 1));
      c.fails(b, BOUNDS, "room(), and room", () -> b.room(0, out, 51));
      c.fails(b, BOUNDS, "widen() of one place", () -> b.widen(out, out, 1));
      c.fails(b, BOUNDS, "widen(), and by", () -> b.widen(out, 0, -51));
      c.fails(b, BOUNDS, "send(), and many", () -> b.send(out, -1));
      c.fails(b, BOUNDS, "round() of two the same", () -> b.round(1, 1, out, 1));
      c.fails(b, BOUNDS, "round() of two out of bounds", () -> b.round(out, out, 1, 1));
      c.fails(b, BOUNDS, "round(), and many", () -> b.round(0, out, 1, 51));
      c.fails(b, BOUNDS, "pair(), and what", () -> b.pair(out, out, 3));
      c.fails(b, BOUNDS, "ofPlace(), and what", () -> b.ofPlace(out, -1));
      c.fails(b, BOUNDS, "would() of one place", () -> b.would(out, out, 0));
      c.fails(b, BOUNDS, "would(), and by", () -> b.would(0, out, 2));
      c.fails(b, BOUNDS, "between()", () -> b.between(out, out));
    }
  }

  private void exceptionAheadOfRefusal() {
    c.about("exceptions go ahead of -9");
    Brookmill b = Nets.diamond();
    b.fill(0);
    c.fails(b, ARGUMENT, "room(0, 1, -1), below its FLOW", () -> b.room(0, 1, -1));
    c.fails(b, ARGUMENT, "widen(0, 1, -51), below 0", () -> b.widen(0, 1, -51));
    c.fails(b, ARGUMENT, "widen(0, 1, 51), above 50", () -> b.widen(0, 1, 51));
    c.fails(b, ARGUMENT, "circle(-1), below a FLOW", () -> b.circle(-1));
    c.fails(b, ARGUMENT, "send(1, 51), more than LEFT", () -> b.send(1, 51));
    c.fails(b, ARGUMENT, "send(0, 51) at once, more than LEFT", () -> b.send(0, 51));
    c.fails(b, ARGUMENT, "round(0, 1, 2, 51), more than LEFT", () -> b.round(0, 1, 2, 51));
    c.fails(b, ARGUMENT, "round(0, 1, 0, 50), more than LEFT", () -> b.round(0, 1, 0, 50));
    c.fails(b, ARGUMENT, "would(3, 0, -2), below 0", () -> b.would(3, 0, -2));
    c.fails(b, ARGUMENT, "cut(16), no CUT", () -> b.cut(16));
    c.fails(b, ARGUMENT, "through(-1), no CUT", () -> b.through(-1));
    c.asks(b, 0, "house(1)", () -> b.house(1));
  }

  private void exceptionChangesNothing() {
    c.about("a method that throws an exception changes nothing");
    Brookmill b = Nets.even(4, 9);
    b.send(1, 4);
    c.fails(b, ARGUMENT, "ends(2, 2), with a FLOW", () -> b.ends(2, 2));
    c.fails(b, BOUNDS, "ends(1, 4), with a FLOW", () -> b.ends(1, 4));
    c.fails(b, ARGUMENT, "places(10), with a FLOW", () -> b.places(10));
    c.fails(b, ARGUMENT, "strew(-1), with a FLOW", () -> b.strew(-1));
    c.fails(b, BOUNDS, "swap(0, 4), with a FLOW", () -> b.swap(0, 4));
    c.fails(b, ARGUMENT, "round(0, 2, 3, 51), the first PAIRS let", () -> b.round(0, 2, 3, 51));
    c.same("0-1-3:4", b.partsText(), "partsText()");
  }
}
