import java.math.BigInteger;

/** Promises 16 to 42: a test for each of their sentences that names an edge. */
public final class EdgeOfQuestionsTest {
  private static final Class<?> ARGUMENT = Checks.ARGUMENT;

  private final Checks c = new Checks();

  private EdgeOfQuestionsTest() {
  }

  public static void main(String[] args) {
    EdgeOfQuestionsTest test = new EdgeOfQuestionsTest();
    test.ofRooms();
    test.ofCuts();
    test.ofMost();
    test.ofFlows();
    test.ofWouldBe();
    test.ofWhole();
    test.c.end();
  }

  private void ofRooms() {
    toldOutOfBounds();
    toldOfNoneAndAll();
    pairOutOfBounds();
    pairOfOnePlace();
    pairEmptyAndFull();
    ofPlaceOutOfBounds();
    ofPlaceEmptyAndFull();
    roomTextOutOfBounds();
    roomTextOfNoneOneAndAll();
  }

  private void ofCuts() {
    cutOutOfBounds();
    cutThatIsNone();
    leastOfNoneAndAll();
    isLeastOfNoCut();
    leastsOfOneAndAll();
    nthLeastBelowZero();
    nthLeastOfNotMore();
    endOfOneAlone();
    endOfAllCuts();
    endIsLeastThoughUnlike();
  }

  private void ofMost() {
    valueOfNoneAndAll();
    valueOfRings();
    mostOutOfRules();
    mostOfNoneAndAll();
    isMostOfNone();
    isMostJustBelow();
  }

  private void ofFlows() {
    trackOutOfRules();
    trackOfNone();
    layerOutOfPlaces();
    layerOfTheSource();
    layerOfNone();
    layerOfTheFarthest();
    throughOutOfBounds();
    throughThatIsNoCut();
    throughAgainstTheFlow();
    partsOfNone();
    partsOfOneKind();
    partsTextOfNoneAndOne();
    flowTextOutOfPlaces();
    flowTextOfNoneAndAll();
  }

  private void ofWouldBe() {
    wouldOutOfBounds();
    wouldBeyondTheMostRoom();
    wouldBelowZero();
    wouldBelowTheFlow();
    betweenOutOfBounds();
    betweenAsTheEndsAre();
    aboutOfNoneAndAll();
    apartOutOfBounds();
    apartOfNoneAndAll();
  }

  private void ofWhole() {
    houseOutOfBounds();
    houseAtFirst();
    knockFirst();
    soundAtTheEdges();
    digestWrapsAround();
    digestTakesMinusOne();
  }

  // ==== promises 16 to 19

  private void toldOutOfBounds() {
    c.about("promise 16: if what is not 0 to 4");
    c.bounds(Nets.diamond(), ARGUMENT, 0, 4, "told()", what -> Nets.diamond().told(what));
    Brookmill b = Nets.diamond();
    c.fails(b, ARGUMENT, "told(-1)", () -> b.told(-1));
    c.fails(b, ARGUMENT, "told(5)", () -> b.told(5));
  }

  private void toldOfNoneAndAll() {
    c.about("promise 16: how many PAIRS have a ROOM above 0; the sum of all ROOMS");
    Brookmill b = Nets.of(9);
    c.asks(b, 0, "told(3) of none", () -> b.told(3));
    c.asks(b, 0, "told(4) of none", () -> b.told(4));
    b.room(8, 0, 1);
    c.asks(b, 1, "told(3) of one", () -> b.told(3));
    c.asks(b, 1, "told(4) of one", () -> b.told(4));
    Brookmill all = Nets.even(9, 50);
    all.fill(0);
    c.asks(all, 72, "told(3) of all", () -> all.told(3));
    c.asks(all, 3600, "told(4) of all", () -> all.told(4));
    Brookmill two = Nets.even(2, 50);
    c.asks(two, 2, "told(3) of two", () -> two.told(3));
    c.asks(two, 100, "told(4) of two", () -> two.told(4));
  }

  private void pairOutOfBounds() {
    c.about("promise 17: if from or to is not 0 to N - 1; if what is not 0 to 2");
    for (int many = 2; many <= 9; many++) {
      Brookmill b = Nets.even(many, 5);
      c.places(b, "pair(, 1, 0)", place -> b.pair(place, 1, 0));
      c.places(b, "pair(1, , 0)", place -> b.pair(1, place, 0));
      c.bounds(b, ARGUMENT, 0, 2, "pair(0, 1, )", what -> b.pair(0, 1, what));
      c.bounds(b, ARGUMENT, 0, 2, "pair(1, 1, )", what -> b.pair(1, 1, what));
    }
  }

  private void pairOfOnePlace() {
    c.about("promise 17: 0 if both PLACES are the same");
    Brookmill b = Nets.even(9, 50);
    b.fill(0);
    for (int place = 0; place < 9; place++) {
      for (int what = 0; what <= 2; what++) {
        c.same(0, b.pair(place, place, what), "pair() of one place");
      }
    }
  }

  private void pairEmptyAndFull() {
    c.about("promise 17: 0 its ROOM, 1 its FLOW, 2 LEFT");
    Brookmill b = Nets.even(2, 50);
    c.same("50 0 50", pair(b, 0, 1), "without FLOW");
    b.fill(0);
    c.same("50 50 0", pair(b, 0, 1), "full");
    c.same("50 -50 100", pair(b, 1, 0), "turned round");
    b.room(1, 0, 0);
    c.same("0 -50 50", pair(b, 1, 0), "turned round, without ROOM");
    b.places(2);
    c.same("0 0 0", pair(b, 0, 1), "without ROOM");
  }

  private static String pair(Brookmill b, int from, int to) {
    return b.pair(from, to, 0) + " " + b.pair(from, to, 1) + " " + b.pair(from, to, 2);
  }

  private void ofPlaceOutOfBounds() {
    c.about("promise 18: if place is not 0 to N - 1; if what is not 0 to 3");
    for (int many = 2; many <= 9; many++) {
      Brookmill b = Nets.of(many);
      c.places(b, "ofPlace(, 0)", place -> b.ofPlace(place, 0));
      c.bounds(b, ARGUMENT, 0, 3, "ofPlace(1, )", what -> b.ofPlace(1, what));
    }
  }

  private void ofPlaceEmptyAndFull() {
    c.about("promise 18: the sums of none, of all, and below 0");
    Brookmill b = Nets.of(9);
    c.same("0 0 0 0", ofPlace(b, 8), "without room");
    Brookmill all = Nets.even(9, 50);
    all.fill(0);
    c.same("400 400 400 400", ofPlace(all, 0), "the SOURCE");
    c.same("400 400 -400 0", ofPlace(all, 8), "the GOAL");
    c.same("400 400 0 50", ofPlace(all, 4), "a place between");
    all.turnRound();
    c.same("400 400 -400 0", ofPlace(all, 0), "the GOAL, turned round");
    c.same("400 400 400 400", ofPlace(all, 8), "the SOURCE, turned round");
    c.same("400 400 0 50", ofPlace(all, 4), "a place between, turned round");
  }

  private static String ofPlace(Brookmill b, int place) {
    return b.ofPlace(place, 0) + " " + b.ofPlace(place, 1) + " " + b.ofPlace(place, 2) + " "
        + b.ofPlace(place, 3);
  }

  private void roomTextOutOfBounds() {
    c.about("promise 19: if place is not 0 to N - 1");
    for (int many = 2; many <= 9; many++) {
      Brookmill b = Nets.even(many, 1);
      c.places(b, "roomText()", place -> b.roomText(place));
    }
  }

  private void roomTextOfNoneOneAndAll() {
    c.about("promise 19: each PAIR from it with a ROOM above 0, with \" \" between");
    Brookmill b = Nets.of(9);
    c.asks(b, "", "roomText(0) of none", () -> b.roomText(0));
    b.room(0, 8, 1);
    c.asks(b, "8:1", "roomText(0) of one", () -> b.roomText(0));
    c.asks(b, "", "roomText(8), the PAIR turned round", () -> b.roomText(8));
    b.room(0, 8, 0);
    c.asks(b, "", "roomText(0) of none again", () -> b.roomText(0));
    Brookmill all = Nets.even(9, 50);
    all.fill(0);
    c.asks(all, "0:50 1:50 2:50 3:50 5:50 6:50 7:50 8:50", "roomText(4)", () -> all.roomText(4));
  }

  // ==== promises 20 to 25

  private void cutOutOfBounds() {
    c.about("promise 20: if set is not 0 to 2^N - 1");
    for (int many = 2; many <= 9; many++) {
      Brookmill b = Nets.even(many, 1);
      c.bounds(b, ARGUMENT, 0, (1 << many) - 1, "cut() of " + many, set -> b.cut(set));
      // a set that is let with more places
      int more = (1 << many) + 1;
      c.fails(b, ARGUMENT, "cut(" + more + ")", () -> b.cut(more));
    }
  }

  private void cutThatIsNone() {
    c.about("promise 20: -9 if it is none");
    Brookmill b = Nets.even(4, 7);
    b.ends(2, 1);
    int cuts = 0;
    for (int set = 0; set < 16; set++) {
      int asked = set;
      boolean isCut = set == 4 || set == 5 || set == 12 || set == 13;
      // three pairs go out of one place, or of three; four out of two
      int due = !isCut ? -9 : set == 4 || set == 13 ? 21 : 28;
      c.asks(b, due, "cut(" + set + ")", () -> b.cut(asked));
      cuts += isCut ? 1 : 0;
    }
    c.same(4, cuts, "the number of cuts");
  }

  private void leastOfNoneAndAll() {
    c.about("promise 21: the least that a CUT lets through, all CUTS tried");
    Brookmill none = Nets.of(9);
    c.asks(none, 0, "least() without room", () -> none.least());
    Brookmill all = Nets.even(9, 50);
    c.asks(all, 400, "least() with all room", () -> all.least());
    Brookmill two = Nets.of(2, 0, 1, 50);
    c.asks(two, 50, "least() of the one cut", () -> two.least());
    // the first cut tried is the least, then the last one: all but the GOAL
    Brookmill first = Nets.of(4, 0, 1, 1, 1, 2, 9, 2, 3, 9);
    c.asks(first, 1, "least(), the SOURCE alone", () -> first.least());
    Brookmill last = Nets.of(4, 0, 1, 9, 1, 2, 9, 2, 3, 1);
    c.asks(last, 1, "least(), all but the GOAL", () -> last.least());
  }

  private void isLeastOfNoCut() {
    c.about("promise 22: a SET that is no CUT is no LEAST CUT");
    Brookmill b = Nets.of(9);
    c.bounds(b, ARGUMENT, 0, 511, "isLeast()", set -> b.isLeast(set));
    c.asks(b, false, "isLeast(0), the empty SET", () -> b.isLeast(0));
    c.asks(b, false, "isLeast(511), the full SET", () -> b.isLeast(511));
    c.asks(b, false, "isLeast(256), the GOAL alone", () -> b.isLeast(256));
    c.asks(b, false, "isLeast(257), both ENDS", () -> b.isLeast(257));
    c.asks(b, false, "isLeast(254), none of the ENDS", () -> b.isLeast(254));
    c.asks(b, true, "isLeast(1), the SOURCE alone", () -> b.isLeast(1));
    c.asks(b, true, "isLeast(255), all but the GOAL", () -> b.isLeast(255));
  }

  private void leastsOfOneAndAll() {
    c.about("promise 23: how many LEAST CUTS there are");
    Brookmill two = Nets.of(2, 0, 1, 50);
    c.asks(two, 1, "leasts() of two", () -> two.leasts());
    Brookmill none = Nets.of(9);
    c.asks(none, 128, "leasts() of nine, all of them", () -> none.leasts());
    // {SOURCE} and all but the GOAL let 400 through, each other one more
    Brookmill all = Nets.even(9, 50);
    c.asks(all, 2, "leasts() of nine", () -> all.leasts());
  }

  private void nthLeastBelowZero() {
    c.about("promise 24: if number is below 0");
    Brookmill b = Nets.line();
    c.fails(b, ARGUMENT, "nthLeast(-1)", () -> b.nthLeast(-1));
    c.fails(b, ARGUMENT, "nthLeast(LOWEST)", () -> b.nthLeast(Checks.LOWEST));
    c.asks(b, 3, "nthLeast(0)", () -> b.nthLeast(0));
  }

  private void nthLeastOfNotMore() {
    c.about("promise 24: -1 if there are not more");
    Brookmill b = Nets.line();
    c.asks(b, 7, "nthLeast(1), the last one", () -> b.nthLeast(1));
    c.asks(b, -1, "nthLeast(2), just too many", () -> b.nthLeast(2));
    c.asks(b, -1, "nthLeast(HIGHEST)", () -> b.nthLeast(Checks.HIGHEST));
    Brookmill two = Nets.of(2);
    c.asks(two, 1, "nthLeast(0) of the one cut", () -> two.nthLeast(0));
    c.asks(two, -1, "nthLeast(1) of the one cut", () -> two.nthLeast(1));
    Brookmill none = Nets.of(9);
    c.asks(none, 255, "nthLeast(127), the last of all", () -> none.nthLeast(127));
    c.asks(none, -1, "nthLeast(128)", () -> none.nthLeast(128));
  }

  private void endOfOneAlone() {
    c.about("promise 25: the nearest and the farthest of one LEAST CUT are the same");
    Brookmill b = Nets.of(4, 0, 1, 9, 1, 2, 3, 2, 3, 9);
    for (boolean isFar : new boolean[] {false, true}) {
      c.asks(b, 3, "end(" + isFar + ")", () -> b.end(isFar));
    }
    Brookmill two = Nets.of(2, 0, 1, 9);
    two.ends(1, 0);
    for (boolean isFar : new boolean[] {false, true}) {
      c.asks(two, 2, "end(" + isFar + ") of two", () -> two.end(isFar));
    }
  }

  private void endOfAllCuts() {
    c.about("promise 25: the nearest is within each other one, in the farthest is each other one");
    for (int many = 2; many <= 9; many++) {
      Brookmill b = Nets.of(many);
      int allButGoal = (1 << many - 1) - 1;
      c.asks(b, 1, "end(false), the SOURCE alone", () -> b.end(false));
      c.asks(b, allButGoal, "end(true), all but the GOAL", () -> b.end(true));
    }
  }

  private void endIsLeastThoughUnlike() {
    c.about("promise 25: the nearest and the farthest are LEAST CUTS themselves");
    // {0, 1} and {0, 2} are least ones, so that {0} and {0, 1, 2} are, too
    Brookmill b = Nets.of(4, 0, 1, 4, 0, 2, 4, 1, 3, 4, 2, 3, 4);
    c.asks(b, 4, "leasts()", () -> b.leasts());
    c.asks(b, 1, "end(false)", () -> b.end(false));
    c.asks(b, 7, "end(true)", () -> b.end(true));
  }

  // ==== promises 26 to 28

  private void valueOfNoneAndAll() {
    c.about("promise 26: the VALUE, 0 and the greatest of all");
    Brookmill b = Nets.even(9, 50);
    c.asks(b, 0, "value()", () -> b.value());
    b.fill(1);
    c.asks(b, 400, "value()", () -> b.value());
  }

  private void valueOfRings() {
    c.about("promise 26: the VALUE of a RING through the SOURCE is 0");
    Brookmill b = Nets.even(4, 9);
    b.round(0, 1, 2, 9);
    c.asks(b, 0, "value()", () -> b.value());
    b.round(0, 3, 2, 9);
    c.asks(b, 0, "value(), past the GOAL", () -> b.value());
  }

  private void mostOutOfRules() {
    c.about("promise 27: if rule is not 0 to 2");
    Brookmill b = Nets.diamond();
    c.bounds(b, ARGUMENT, 0, 2, "most()", rule -> b.most(rule));
  }

  private void mostOfNoneAndAll() {
    c.about("promise 27: all are the same");
    Brookmill none = Nets.of(2, 1, 0, 50);
    Brookmill all = Nets.even(9, 50);
    Brookmill one = Nets.of(9);
    one.circle(1);
    for (int rule = 0; rule <= 2; rule++) {
      int by = rule;
      c.asks(none, 0, "most(" + by + ") against the room", () -> none.most(by));
      c.asks(all, 400, "most(" + by + ") with all room", () -> all.most(by));
      c.asks(one, 1, "most(" + by + ") of the longest track", () -> one.most(by));
    }
  }

  private void isMostOfNone() {
    c.about("promise 28: a FLOW of 0 is the MOST, where nothing can flow");
    Brookmill b = Nets.of(2, 1, 0, 50);
    c.asks(b, true, "isMost()", () -> b.isMost());
    b.room(0, 1, 1);
    c.asks(b, false, "isMost() with room", () -> b.isMost());
  }

  private void isMostJustBelow() {
    c.about("promise 28: whether the FLOW has the MOST as its VALUE: just less, just as much");
    Brookmill b = Nets.of(3, 0, 1, 9, 1, 2, 9, 0, 2, 50);
    b.send(0, 50);
    b.send(1, 8);
    c.asks(b, false, "isMost() with 58 of 59", () -> b.isMost());
    b.send(1, 1);
    c.asks(b, true, "isMost() with 59 of 59", () -> b.isMost());
    Brookmill ring = Nets.even(4, 9);
    ring.round(1, 2, 3, 9);
    ring.fill(2);
    c.asks(ring, true, "isMost() with a ring besides", () -> ring.isMost());
    ring.widen(0, 1, 1);
    c.asks(ring, true, "isMost(), more room from the SOURCE alone", () -> ring.isMost());
    ring.widen(1, 3, 1);
    c.asks(ring, false, "isMost(), more room as far as the GOAL", () -> ring.isMost());
  }

  // ==== promises 29 to 34

  private void trackOutOfRules() {
    c.about("promise 29: if rule is not 0 to 2");
    Brookmill b = Nets.diamond();
    c.bounds(b, ARGUMENT, 0, 2, "track()", rule -> b.track(rule));
  }

  private void trackOfNone() {
    c.about("promise 29: \"\" if there is none");
    Brookmill none = Nets.of(9);
    Brookmill full = Nets.even(4, 9);
    full.fill(0);
    Brookmill half = Nets.of(4, 0, 1, 9, 1, 2, 9, 2, 0, 9, 3, 2, 9);
    for (int rule = 0; rule <= 2; rule++) {
      int by = rule;
      c.asks(none, "", "track(" + by + ") without room", () -> none.track(by));
      c.asks(full, "", "track(" + by + ") with all full", () -> full.track(by));
      c.asks(half, "", "track(" + by + ") that ends ahead of the GOAL", () -> half.track(by));
    }
  }

  private void layerOutOfPlaces() {
    c.about("promise 30: if place is not 0 to N - 1");
    for (int many = 2; many <= 9; many++) {
      Brookmill b = Nets.even(many, 1);
      c.places(b, "layer() of " + many, place -> b.layer(place));
    }
  }

  private void layerOfTheSource() {
    c.about("promise 30: one is at the SOURCE by no PAIR");
    Brookmill none = Nets.of(9);
    c.asks(none, 0, "layer(0)", () -> none.layer(0));
    none.ends(8, 0);
    c.asks(none, 0, "layer(8)", () -> none.layer(8));
    Brookmill full = Nets.even(3, 9);
    full.fill(0);
    c.asks(full, 0, "layer(0) with all full", () -> full.layer(0));
  }

  private void layerOfNone() {
    c.about("promise 30: -1 if one does not");
    Brookmill b = Nets.of(3, 0, 2, 1, 1, 0, 9);
    c.asks(b, 1, "layer(2), 1 left", () -> b.layer(2));
    c.asks(b, -1, "layer(1), against the room", () -> b.layer(1));
    b.fill(0);
    c.asks(b, -1, "layer(2), none left", () -> b.layer(2));
  }

  private void layerOfTheFarthest() {
    c.about("promise 30: by how many PAIRS at least: the most of nine PLACES");
    Brookmill b = Nets.of(9);
    b.circle(1);
    for (int place = 0; place < 9; place++) {
      int asked = place;
      c.asks(b, place, "layer(" + place + ")", () -> b.layer(asked));
    }
    b.room(0, 7, 1);
    c.asks(b, 2, "layer(8), by fewer", () -> b.layer(8));
    b.ends(1, 0);
    c.asks(b, 8, "layer(0), round the circle", () -> b.layer(0));
  }

  private void throughOutOfBounds() {
    c.about("promise 31: if set is not 0 to 2^N - 1");
    for (int many = 2; many <= 9; many++) {
      Brookmill b = Nets.even(many, 1);
      c.bounds(b, ARGUMENT, 0, (1 << many) - 1, "through() of " + many, set -> b.through(set));
    }
  }

  private void throughThatIsNoCut() {
    c.about("promise 31: -9 if it is no CUT");
    Brookmill b = Nets.diamond();
    b.fill(0);
    c.asks(b, -9, "through(0), the empty SET", () -> b.through(0));
    c.asks(b, -9, "through(15), the full SET", () -> b.through(15));
    c.asks(b, -9, "through(8), the GOAL alone", () -> b.through(8));
    c.asks(b, -9, "through(9), both ENDS", () -> b.through(9));
    c.asks(b, -9, "through(6), none of the ENDS", () -> b.through(6));
    c.asks(b, 11, "through(1), the SOURCE alone", () -> b.through(1));
    c.asks(b, 11, "through(7), all but the GOAL", () -> b.through(7));
  }

  private void throughAgainstTheFlow() {
    c.about("promise 31: FLOWS below 0 are summed up, too");
    Brookmill b = Nets.even(4, 9);
    c.asks(b, 0, "through(1) without FLOW", () -> b.through(1));
    b.send(2, 3);
    b.round(0, 2, 1, 6);
    // 0-2 carries 9, 2-1 and 1-0 6: {0, 1} lets 9 go and 6 come
    c.asks(b, 3, "through(1)", () -> b.through(1));
    c.asks(b, 3, "through(3)", () -> b.through(3));
    c.asks(b, 3, "through(5)", () -> b.through(5));
  }

  private void partsOfNone() {
    c.about("promise 32: how many of these are among the PARTS: none");
    Brookmill b = Nets.even(9, 50);
    c.asks(b, 0, "parts(false)", () -> b.parts(false));
    c.asks(b, 0, "parts(true)", () -> b.parts(true));
  }

  private void partsOfOneKind() {
    c.about("promise 32: WAYS alone, RINGS alone");
    Brookmill ways = Nets.even(9, 50);
    ways.fill(0);
    c.asks(ways, 8, "parts(false)", () -> ways.parts(false));
    c.asks(ways, 0, "parts(true)", () -> ways.parts(true));
    Brookmill rings = Nets.even(9, 50);
    rings.round(1, 2, 3, 1);
    rings.round(4, 5, 6, 50);
    c.asks(rings, 0, "parts(false)", () -> rings.parts(false));
    c.asks(rings, 2, "parts(true)", () -> rings.parts(true));
  }

  private void partsTextOfNoneAndOne() {
    c.about("promise 33: with \" \" between: of none, of one, of several");
    Brookmill b = Nets.even(7, 50);
    c.asks(b, "", "partsText()", () -> b.partsText());
    b.send(0, 1);
    c.asks(b, "0-6:1", "partsText()", () -> b.partsText());
    b.send(5, 50);
    c.asks(b, "0-5-6:50 0-6:1", "partsText()", () -> b.partsText());
    b.round(2, 4, 3, 10);
    c.asks(b, "0-5-6:50 0-6:1 2-4-3-2:10", "partsText()", () -> b.partsText());
  }

  private void flowTextOutOfPlaces() {
    c.about("promise 34: if place is not 0 to N - 1");
    for (int many = 2; many <= 9; many++) {
      Brookmill b = Nets.even(many, 1);
      c.places(b, "flowText() of " + many, place -> b.flowText(place));
    }
  }

  private void flowTextOfNoneAndAll() {
    c.about("promise 34: each PAIR from it with a FLOW above 0");
    Brookmill b = Nets.even(9, 50);
    c.asks(b, "", "flowText(0) of none", () -> b.flowText(0));
    b.send(4, 1);
    c.asks(b, "4:1", "flowText(0) of one", () -> b.flowText(0));
    c.asks(b, "8:1", "flowText(4), none below 0", () -> b.flowText(4));
    c.asks(b, "", "flowText(8), the GOAL", () -> b.flowText(8));
    b.fill(0);
    c.asks(b, "1:50 2:50 3:50 4:50 5:50 6:50 7:50 8:50", "flowText(0)", () -> b.flowText(0));
    b.turnRound();
    c.asks(b, "0:50 1:50 2:50 3:50 4:50 5:50 6:50 7:50", "flowText(8)", () -> b.flowText(8));
  }

  // ==== promises 35 to 38

  private void wouldOutOfBounds() {
    c.about("promise 35: if from or to is not 0 to N - 1; both the same; by is not -1 to 1");
    Brookmill b = Nets.even(5, 9);
    c.places(b, "would(, 4, 0)", place -> b.would(place, place == 4 ? 3 : 4, 0));
    c.places(b, "would(4, , 0)", place -> b.would(4, place == 4 ? 3 : place, 0));
    c.bounds(b, ARGUMENT, -1, 1, "would(0, 4, )", by -> b.would(0, 4, by));
    c.fails(b, ARGUMENT, "would(4, 4, 0)", () -> b.would(4, 4, 0));
  }

  private void wouldBeyondTheMostRoom() {
    c.about("promise 35: here 51, too");
    Brookmill b = Nets.even(2, 50);
    c.asks(b, 51, "would(0, 1, 1)", () -> b.would(0, 1, 1));
    c.asks(b, 50, "would(0, 1, 0)", () -> b.would(0, 1, 0));
    c.asks(b, 50, "would(1, 0, 1)", () -> b.would(1, 0, 1));
    b.fill(0);
    c.asks(b, 51, "would(0, 1, 1) with all full", () -> b.would(0, 1, 1));
    Brookmill nine = Nets.even(9, 50);
    c.asks(nine, 401, "would(0, 8, 1)", () -> nine.would(0, 8, 1));
  }

  private void wouldBelowZero() {
    c.about("promise 35: -9 if it would be below 0");
    Brookmill b = Nets.of(2, 0, 1, 1);
    c.asks(b, 0, "would(0, 1, -1), to 0", () -> b.would(0, 1, -1));
    c.asks(b, -9, "would(1, 0, -1), to -1", () -> b.would(1, 0, -1));
    c.asks(b, 1, "would(1, 0, 0), 0 as it is", () -> b.would(1, 0, 0));
    c.asks(b, 1, "would(1, 0, 1), to 1", () -> b.would(1, 0, 1));
  }

  private void wouldBelowTheFlow() {
    c.about("promise 35: the MOST is counted from a FLOW of 0 on, so none is too great");
    Brookmill b = Nets.diamond();
    b.fill(0);
    c.asks(b, 10, "would(0, 1, -1), a full PAIR", () -> b.would(0, 1, -1));
    c.asks(b, 10, "would(0, 2, -1), a full PAIR", () -> b.would(0, 2, -1));
  }

  private void betweenOutOfBounds() {
    c.about("promise 36: if from or to is not 0 to N - 1; if both are the same");
    Brookmill b = Nets.even(5, 9);
    c.places(b, "between(, 4)", place -> b.between(place, place == 4 ? 3 : 4));
    c.places(b, "between(4, )", place -> b.between(4, place == 4 ? 3 : place));
    for (int place = 0; place < 5; place++) {
      int same = place;
      c.fails(b, ARGUMENT, "between() of one", () -> b.between(same, same));
    }
  }

  private void betweenAsTheEndsAre() {
    c.about("promise 36: the MOST, if these were SOURCE and GOAL: as they are, exchanged");
    Brookmill b = Nets.of(2, 0, 1, 7, 1, 0, 50);
    b.fill(0);
    c.asks(b, 7, "between(0, 1)", () -> b.between(0, 1));
    c.asks(b, 50, "between(1, 0)", () -> b.between(1, 0));
    Brookmill none = Nets.of(9);
    c.asks(none, 0, "between(8, 0) without room", () -> none.between(8, 0));
    Brookmill all = Nets.even(9, 50);
    c.asks(all, 400, "between(8, 0) with all room", () -> all.between(8, 0));
  }

  private void aboutOfNoneAndAll() {
    c.about("promise 37: the same as the MOST");
    Brookmill none = Nets.of(9);
    c.asks(none, 0, "about() without room", () -> none.about());
    Brookmill all = Nets.even(9, 50);
    all.fill(0);
    c.asks(all, 400, "about() with all full", () -> all.about());
    Brookmill one = Nets.of(2, 0, 1, 7, 1, 0, 50);
    c.asks(one, 7, "about(), less room than back", () -> one.about());
    one.ends(1, 0);
    c.asks(one, 50, "about(), more room than back", () -> one.about());
  }

  private void apartOutOfBounds() {
    c.about("promise 38: if how is not 0 or 1");
    Brookmill b = Nets.diamond();
    c.bounds(b, ARGUMENT, 0, 1, "apart()", how -> b.apart(how));
  }

  private void apartOfNoneAndAll() {
    c.about("promise 38: if each ROOM above 0 were 1: both are the same");
    Brookmill none = Nets.of(9, 8, 0, 50);
    Brookmill all = Nets.even(9, 50);
    all.fill(0);
    Brookmill ones = Nets.even(9, 1);
    Brookmill two = Nets.of(2, 0, 1, 1);
    Brookmill back = Nets.of(2, 1, 0, 50);
    back.ends(1, 0);
    for (int how = 0; how <= 1; how++) {
      int by = how;
      c.asks(back, 1, "apart(" + how + ") of one, to place 0", () -> back.apart(by));
      c.asks(none, 0, "apart(" + how + ") without a way", () -> none.apart(by));
      c.asks(all, 8, "apart(" + how + ") with all full", () -> all.apart(by));
      c.asks(ones, 8, "apart(" + how + ") of ones", () -> ones.apart(by));
      c.asks(two, 1, "apart(" + how + ") of one", () -> two.apart(by));
    }
  }

  // ==== promises 39 to 42

  private void houseOutOfBounds() {
    c.about("promise 39: if what is not 0 to 2");
    Brookmill b = Nets.diamond();
    c.bounds(b, ARGUMENT, 0, 2, "house()", what -> b.house(what));
  }

  private void houseAtFirst() {
    c.about("promise 39: how many, from none on");
    Brookmill b = new Brookmill();
    c.asks(b, 0, "house(0)", () -> b.house(0));
    c.asks(b, 0, "house(1)", () -> b.house(1));
    c.asks(b, 0, "house(2)", () -> b.house(2));
    b.places(2);
    c.asks(b, 1, "house(0), the first ACT", () -> b.house(0));
    b.send(0, 1);
    c.asks(b, 1, "house(0), refused", () -> b.house(0));
    c.asks(b, 1, "house(1), the first -9", () -> b.house(1));
    b.knock();
    c.asks(b, 1, "house(2), the first knock", () -> b.house(2));
    b.places(2);
    c.asks(b, 2, "house(0), all as at first", () -> b.house(0));
    c.asks(b, 1, "house(1), all as at first", () -> b.house(1));
    c.asks(b, 1, "house(2), all as at first", () -> b.house(2));
  }

  private void knockFirst() {
    c.about("promise 40: how often one knocked, with this");
    Brookmill b = new Brookmill();
    c.same(1, b.knock(), "the first knock()");
    c.same(2, b.knock(), "the second knock()");
    c.asks(b, 0, "house(0), no ACT", () -> b.house(0));
    c.same(1, new Brookmill().knock(), "the first knock() of another object");
  }

  private void soundAtTheEdges() {
    c.about("promise 41: it is always true");
    for (int many = 2; many <= 9; many++) {
      Brookmill b = Nets.even(many, 50);
      c.asks(b, true, "isSound() without FLOW", () -> b.isSound());
      b.fill(1);
      c.asks(b, true, "isSound() with the MOST", () -> b.isSound());
      if (many > 2) {
        b.empty();
        b.round(many - 1, 0, 1, 50);
        c.asks(b, true, "isSound() with a ring past both ENDS", () -> b.isSound());
        b.fill(2);
        c.asks(b, true, "isSound() with a ring and the MOST", () -> b.isSound());
      }
      b.places(many);
      c.asks(b, true, "isSound() without room", () -> b.isSound());
    }
    Brookmill refused = Nets.diamond();
    refused.fill(0);
    refused.room(0, 1, 0);
    c.asks(refused, true, "isSound() behind a -9", () -> refused.isSound());
    Checks.answer(() -> refused.ends(1, 1));
    c.asks(refused, true, "isSound() behind an exception", () -> refused.isSound());
  }

  private void digestWrapsAround() {
    c.about("promise 42: d wraps around as a 64-bit integer");
    Brookmill two = new Brookmill();
    two.places(2);
    Brookmill nine = Nets.even(9, 50);
    nine.fill(0);
    for (Brookmill b : new Brookmill[] {new Brookmill(), two, nine}) {
      BigInteger whole = wholeDigest(b);
      c.same(true, whole.bitLength() > 64, "more than 64 bits");
      c.same(whole.longValue(), b.digest(), "digest()");
      c.same(whole.longValue(), b.digest(), "digest() again");
    }
  }

  private void digestTakesMinusOne() {
    c.about("promise 42: layer() may be -1, ofPlace() below 0");
    Brookmill b = Nets.of(3, 0, 2, 4);
    b.fill(0);
    c.same(-1, b.layer(1), "layer(1)");
    c.same(-4, b.ofPlace(2, 2), "ofPlace(2, 2)");
    c.same(wholeDigest(b).longValue(), b.digest(), "digest()");
  }

  /** The checksum as a number without bounds, from the answers of the other methods. */
  private static BigInteger wholeDigest(Brookmill b) {
    BigInteger d = BigInteger.valueOf(8026);
    for (int what = 0; what <= 4; what++) {
      d = with(d, b.told(what));
    }
    for (int place = 0; place < b.told(0); place++) {
      for (int what = 0; what <= 3; what++) {
        d = with(d, b.ofPlace(place, what));
      }
      d = with(d, b.layer(place));
      for (int to = 0; to < b.told(0); to++) {
        d = with(with(d, b.pair(place, to, 0)), b.pair(place, to, 1));
      }
    }
    d = with(with(with(d, b.value()), b.most(0)), b.leasts());
    d = with(with(d, b.end(false)), b.end(true));
    d = with(with(d, b.parts(false)), b.parts(true));
    d = with(with(d, b.partsText().length()), b.apart(0));
    for (int what = 0; what <= 2; what++) {
      d = with(d, b.house(what));
    }
    return with(d, b.isSound() ? 1 : 0);
  }

  private static BigInteger with(BigInteger d, int v) {
    return d.multiply(BigInteger.valueOf(31)).add(BigInteger.valueOf(v));
  }
}
