/** Places, the room between them, and what flows from one of them to another one. */
public final class Brookmill {
  private static final int FEWEST_PLACES = 2;
  private static final int MOST_PLACES = 9;
  private static final int FIRST_PLACES = 6;
  private static final int MOST_ROOM = 50;
  private static final int MOST_SEED = 9999;
  private static final int LAST_RULE = 2;
  private static final int CAN_NOT = -9;
  private static final int NONE = -1;
  // No number that is asked for or summed up here is above it.
  private static final int BEYOND_ALL = 0x7fffffff;
  // Each filling makes the value greater by 1 at least, and no value is above 8 * 50 + 1.
  private static final int MOST_FILLINGS = 1000;
  // Each part but one uses up a pair with a flow above 0, and there are 36 of these at most.
  private static final int MOST_PARTS = 100;

  private final Net net = new Net();
  // What is only tried is done to this one, so that questions change nothing.
  private final Net trial = new Net();
  private final TrackFinder tracks = new TrackFinder();
  private final PartFinder pieces = new PartFinder();
  private final StringBuilder text = new StringBuilder();
  private int actsDone;
  private int actsRefused;
  private int knocks;

  public Brookmill() {
    net.begin(FIRST_PLACES);
  }

  // ==== places and rooms

  public int places(int many) throws IllegalArgumentException {
    needWithin(many, FEWEST_PLACES, MOST_PLACES);
    int before = net.many;
    net.begin(many);
    return acted(before);
  }

  public int ends(int source, int goal) throws IndexOutOfBoundsException, IllegalArgumentException {
    needPair(source, goal);
    int before = net.valueNow();
    net.source = source;
    net.goal = goal;
    net.flows.clear();
    return acted(before);
  }

  public int room(int from, int to, int room)
      throws IndexOutOfBoundsException, IllegalArgumentException {
    needPair(from, to);
    needWithin(room, 0, MOST_ROOM);
    if (net.flows.at(from, to) > room) {
      return refused();
    }
    int before = net.rooms.at(from, to);
    net.rooms.put(from, to, room);
    return acted(before);
  }

  public int widen(int from, int to, int by)
      throws IndexOutOfBoundsException, IllegalArgumentException {
    needPair(from, to);
    needWithin(by, -MOST_ROOM, MOST_ROOM);
    int wide = net.rooms.at(from, to) + by;
    if (wide < 0 || wide > MOST_ROOM || net.flows.at(from, to) > wide) {
      return refused();
    }
    net.rooms.put(from, to, wide);
    return acted(wide);
  }

  public int circle(int room) throws IllegalArgumentException {
    needWithin(room, 0, MOST_ROOM);
    for (int place = 0; place < net.many; place++) {
      if (net.flows.at(place, net.nextInCircle(place)) > room) {
        return refused();
      }
    }
    int others = 0;
    for (int place = 0; place < net.many; place++) {
      int next = net.nextInCircle(place);
      if (net.rooms.at(place, next) != room) {
        others++;
      }
      net.rooms.put(place, next, room);
    }
    return acted(others);
  }

  public int strew(int seed) throws IllegalArgumentException {
    needWithin(seed, 0, MOST_SEED);
    net.flows.clear();
    for (int from = 0; from < net.many; from++) {
      for (int to = 0; to < net.many; to++) {
        int strewn = (seed + 7 * from + 3 * to + from * to) % 11 - 4;
        net.rooms.put(from, to, from == to ? 0 : Math.max(0, strewn));
      }
    }
    return acted(net.roomInAll());
  }

  public int turnRound() {
    net.turn();
    return acted(net.valueNow());
  }

  public int swap(int one, int other) throws IndexOutOfBoundsException {
    needPlace(one);
    needPlace(other);
    net.exchange(one, other);
    return acted(net.goal);
  }

  // ==== flow

  public int step(int rule) throws IllegalArgumentException {
    needWithin(rule, 0, LAST_RULE);
    int before = net.valueNow();
    tracks.fillTimes(net, rule, 1);
    return acted(net.valueNow() - before);
  }

  public int fill(int rule) throws IllegalArgumentException {
    needWithin(rule, 0, LAST_RULE);
    return acted(tracks.fillTimes(net, rule, MOST_FILLINGS));
  }

  public int send(int over, int many) throws IndexOutOfBoundsException, IllegalArgumentException {
    needPlace(over);
    needWithin(many, 0, MOST_ROOM);
    if (over == net.source || over == net.goal) {
      return sendAtOnce(many);
    }
    if (net.leftOf(net.source, over) < many || net.leftOf(over, net.goal) < many) {
      return refused();
    }
    net.carry(net.source, over, many);
    net.carry(over, net.goal, many);
    return acted(net.valueNow());
  }

  private int sendAtOnce(int many) {
    if (net.leftOf(net.source, net.goal) < many) {
      return refused();
    }
    net.carry(net.source, net.goal, many);
    return acted(net.valueNow());
  }

  public int round(int one, int other, int third, int many)
      throws IndexOutOfBoundsException, IllegalArgumentException {
    needPlace(one);
    needPlace(other);
    needPlace(third);
    needUnlike(one, other);
    needUnlike(other, third);
    needUnlike(third, one);
    needWithin(many, 0, MOST_ROOM);
    if (net.leftOf(one, other) < many || net.leftOf(other, third) < many
        || net.leftOf(third, one) < many) {
      return refused();
    }
    net.carry(one, other, many);
    net.carry(other, third, many);
    net.carry(third, one, many);
    return acted(net.flows.countAboveZero(net.many));
  }

  public int peel() {
    if (!pieces.find(net)) {
      return acted(0);
    }
    pieces.takeFrom(net);
    return acted(pieces.amount);
  }

  public int empty() {
    int before = net.valueNow();
    net.flows.clear();
    return acted(before);
  }

  // ==== what is asked of rooms

  public int told(int what) throws IllegalArgumentException {
    needWithin(what, 0, 4);
    switch (what) {
      case 0:
        return net.many;
      case 1:
        return net.source;
      case 2:
        return net.goal;
      case 3:
        return net.rooms.countAboveZero(net.many);
      default:
        return net.roomInAll();
    }
  }

  public int pair(int from, int to, int what)
      throws IndexOutOfBoundsException, IllegalArgumentException {
    needPlace(from);
    needPlace(to);
    needWithin(what, 0, 2);
    if (from == to) {
      return 0;
    }
    switch (what) {
      case 0:
        return net.rooms.at(from, to);
      case 1:
        return net.flows.at(from, to);
      default:
        return net.leftOf(from, to);
    }
  }

  public int ofPlace(int place, int what)
      throws IndexOutOfBoundsException, IllegalArgumentException {
    needPlace(place);
    needWithin(what, 0, 3);
    switch (what) {
      case 0:
        return net.rooms.sumFrom(place, net.many);
      case 1:
        return net.rooms.sumTo(place, net.many);
      case 2:
        return net.flows.sumFrom(place, net.many);
      default:
        return net.flows.sumAboveZeroFrom(place, net.many);
    }
  }

  public String roomText(int place) throws IndexOutOfBoundsException {
    needPlace(place);
    return rowText(net.rooms, place);
  }

  public int cut(int set) throws IllegalArgumentException {
    needSet(set);
    return Cuts.isCut(net, set) ? Cuts.sumAcross(net, net.rooms, set) : CAN_NOT;
  }

  public int least() {
    return Cuts.leastRoom(net);
  }

  public boolean isLeast(int set) throws IllegalArgumentException {
    needSet(set);
    return Cuts.isLeastCut(net, set, Cuts.leastRoom(net));
  }

  public int leasts() {
    return Cuts.countOfLeast(net);
  }

  public int nthLeast(int number) throws IllegalArgumentException {
    needWithin(number, 0, BEYOND_ALL);
    return Cuts.leastByNumber(net, number);
  }

  public int end(boolean isFar) {
    return isFar ? Cuts.farthest(net) : Cuts.nearest(net);
  }

  // ==== what is asked of flows

  public int value() {
    return net.valueNow();
  }

  public int most(int rule) throws IllegalArgumentException {
    needWithin(rule, 0, LAST_RULE);
    trial.become(net);
    return mostOfTrial(rule);
  }

  public boolean isMost() {
    return net.valueNow() == most(0);
  }

  public String track(int rule) throws IllegalArgumentException {
    needWithin(rule, 0, LAST_RULE);
    tracks.find(net, rule);
    text.setLength(0);
    tracks.found.write(text);
    return text.toString();
  }

  public int layer(int place) throws IndexOutOfBoundsException {
    needPlace(place);
    return tracks.layerOf(net, place);
  }

  public int through(int set) throws IllegalArgumentException {
    needSet(set);
    return Cuts.isCut(net, set) ? Cuts.sumAcross(net, net.flows, set) : CAN_NOT;
  }

  public int parts(boolean isRings) {
    trial.become(net);
    int count = 0;
    for (int i = 0; i < MOST_PARTS && pieces.find(trial); i++) {
      pieces.takeFrom(trial);
      if (pieces.isRing == isRings) {
        count++;
      }
    }
    return count;
  }

  public String partsText() {
    writeParts();
    return text.toString();
  }

  public String flowText(int place) throws IndexOutOfBoundsException {
    needPlace(place);
    return rowText(net.flows, place);
  }

  // ==== what would be

  public int would(int from, int to, int by)
      throws IndexOutOfBoundsException, IllegalArgumentException {
    needPair(from, to);
    needWithin(by, -1, 1);
    int wide = net.rooms.at(from, to) + by;
    if (wide < 0) {
      return CAN_NOT;
    }
    trial.become(net);
    trial.rooms.put(from, to, wide);
    return mostOfTrial(0);
  }

  public int between(int from, int to) throws IndexOutOfBoundsException, IllegalArgumentException {
    needPair(from, to);
    trial.become(net);
    trial.source = from;
    trial.goal = to;
    return mostOfTrial(0);
  }

  public int about() {
    trial.become(net);
    trial.turn();
    return mostOfTrial(0);
  }

  public int apart(int how) throws IllegalArgumentException {
    needWithin(how, 0, 1);
    trial.become(net);
    trial.narrowToOne();
    return how == 0 ? mostOfTrial(0) : Cuts.leastRoom(trial);
  }

  // ==== the whole

  public int house(int what) throws IllegalArgumentException {
    needWithin(what, 0, 2);
    switch (what) {
      case 0:
        return actsDone;
      case 1:
        return actsRefused;
      default:
        return knocks;
    }
  }

  public int knock() {
    knocks++;
    return knocks;
  }

  public boolean isSound() {
    int least = Cuts.leastRoom(net);
    trial.become(net);
    int most = mostOfTrial(0);
    int mostByFirst = mostOfTrial(1);
    return net.isFlowLet() && net.isKept() && isValueSound(most) && most == least
        && mostByFirst == least && areCutsSound(least) && sumOfWays() == net.valueNow();
  }

  public long digest() {
    long d = 8026;
    for (int what = 0; what <= 4; what++) {
      d = d * 31 + told(what);
    }
    for (int place = 0; place < net.many; place++) {
      d = withPlace(d, place);
    }
    d = d * 31 + value();
    d = d * 31 + most(0);
    d = d * 31 + leasts();
    d = d * 31 + end(false);
    d = d * 31 + end(true);
    d = d * 31 + parts(false);
    d = d * 31 + parts(true);
    writeParts();
    d = d * 31 + text.length();
    d = d * 31 + apart(0);
    for (int what = 0; what <= 2; what++) {
      d = d * 31 + house(what);
    }
    return d * 31 + (isSound() ? 1 : 0);
  }

  private long withPlace(long start, int place) {
    long d = start;
    for (int what = 0; what <= 3; what++) {
      d = d * 31 + ofPlace(place, what);
    }
    d = d * 31 + layer(place);
    for (int to = 0; to < net.many; to++) {
      d = d * 31 + pair(place, to, 0);
      d = d * 31 + pair(place, to, 1);
    }
    return d;
  }

  // ==== what an act answers

  private int acted(int answer) {
    actsDone++;
    return answer;
  }

  private int refused() {
    actsRefused++;
    return CAN_NOT;
  }

  // ==== what is tried

  private int mostOfTrial(int rule) {
    trial.flows.clear();
    tracks.fillTimes(trial, rule, MOST_FILLINGS);
    return trial.valueNow();
  }

  private boolean isValueSound(int most) {
    int value = net.valueNow();
    tracks.find(net, 0);
    boolean isTrackless = tracks.found.length == 0;
    return value <= most && (value == most) == isTrackless;
  }

  private boolean areCutsSound(int least) {
    return Cuts.letEachThrough(net, net.valueNow())
        && Cuts.isLeastCut(net, Cuts.nearest(net), least)
        && Cuts.isLeastCut(net, Cuts.farthest(net), least);
  }

  private int sumOfWays() {
    trial.become(net);
    int sum = 0;
    for (int i = 0; i < MOST_PARTS && pieces.find(trial); i++) {
      pieces.takeFrom(trial);
      if (!pieces.isRing) {
        sum += pieces.amount;
      }
    }
    return sum;
  }

  // ==== texts

  private void writeParts() {
    trial.become(net);
    text.setLength(0);
    for (int i = 0; i < MOST_PARTS && pieces.find(trial); i++) {
      pieces.takeFrom(trial);
      if (i > 0) {
        text.append(' ');
      }
      pieces.row.write(text);
      text.append(':');
      text.append(pieces.amount);
    }
  }

  private String rowText(Grid grid, int from) {
    text.setLength(0);
    for (int to = 0; to < net.many; to++) {
      int number = grid.at(from, to);
      if (number > 0) {
        if (text.length() > 0) {
          text.append(' ');
        }
        text.append(to);
        text.append(':');
        text.append(number);
      }
    }
    return text.toString();
  }

  // ==== what is let

  private void needPlace(int place) {
    if (place < 0 || place >= net.many) {
      throw new IndexOutOfBoundsException("no such place");
    }
  }

  private void needPair(int from, int to) {
    needPlace(from);
    needPlace(to);
    needUnlike(from, to);
  }

  private void needUnlike(int one, int other) {
    if (one == other) {
      throw new IllegalArgumentException("the same place twice");
    }
  }

  private void needSet(int set) {
    needWithin(set, 0, net.allPlaces());
  }

  private void needWithin(int number, int lowest, int highest) {
    if (number < lowest || number > highest) {
      throw new IllegalArgumentException("a number out of bounds");
    }
  }

  private static boolean holds(int set, int place) {
    return (set >> place & 1) == 1;
  }

  /** A number for each pair of places; what lies outside counts as 0. */
  private static final class Grid {
    private final int[] cells = new int[MOST_PLACES * MOST_PLACES];

    int at(int from, int to) {
      if (from < 0 || from >= MOST_PLACES || to < 0 || to >= MOST_PLACES) {
        return 0;
      }
      return cells[from * MOST_PLACES + to];
    }

    void put(int from, int to, int number) {
      if (from >= 0 && from < MOST_PLACES && to >= 0 && to < MOST_PLACES) {
        cells[from * MOST_PLACES + to] = number;
      }
    }

    void clear() {
      for (int i = 0; i < cells.length; i++) {
        cells[i] = 0;
      }
    }

    void become(Grid other) {
      for (int i = 0; i < cells.length && i < other.cells.length; i++) {
        cells[i] = other.cells[i];
      }
    }

    int sumFrom(int from, int many) {
      int sum = 0;
      for (int to = 0; to < many; to++) {
        sum += at(from, to);
      }
      return sum;
    }

    int sumAboveZeroFrom(int from, int many) {
      int sum = 0;
      for (int to = 0; to < many; to++) {
        sum += Math.max(0, at(from, to));
      }
      return sum;
    }

    int sumTo(int to, int many) {
      int sum = 0;
      for (int from = 0; from < many; from++) {
        sum += at(from, to);
      }
      return sum;
    }

    int countAboveZero(int many) {
      int count = 0;
      for (int from = 0; from < many; from++) {
        for (int to = 0; to < many; to++) {
          if (at(from, to) > 0) {
            count++;
          }
        }
      }
      return count;
    }

    void turn(int many) {
      for (int one = 0; one < many; one++) {
        for (int other = 0; other < one; other++) {
          exchangeCells(one, other, other, one);
        }
      }
    }

    void exchangePlaces(int one, int other, int many) {
      for (int place = 0; place < many; place++) {
        exchangeCells(one, place, other, place);
      }
      for (int place = 0; place < many; place++) {
        exchangeCells(place, one, place, other);
      }
    }

    private void exchangeCells(int from, int to, int otherFrom, int otherTo) {
      int kept = at(from, to);
      put(from, to, at(otherFrom, otherTo));
      put(otherFrom, otherTo, kept);
    }
  }

  /** Places in the order in which one comes to them: the longest row is a ring of all places. */
  private static final class Row {
    private final int[] places = new int[MOST_PLACES + 1];
    private int length;

    void clear() {
      length = 0;
    }

    void add(int place) {
      if (length >= 0 && length < places.length) {
        places[length] = place;
        length++;
      }
    }

    int at(int index) {
      return index >= 0 && index < places.length ? places[index] : NONE;
    }

    /** Leaves only what stands from the first such place on. */
    void startAt(int place) {
      int first = 0;
      while (first < length && at(first) != place) {
        first++;
      }
      int all = length;
      clear();
      for (int i = first; i < all; i++) {
        add(at(i));
      }
    }

    void write(StringBuilder text) {
      for (int i = 0; i < length; i++) {
        if (i > 0) {
          text.append('-');
        }
        text.append(at(i));
      }
    }
  }

  /** Places with rooms, ends and a flow. */
  private static final class Net {
    private int many;
    private int source;
    private int goal;
    private final Grid rooms = new Grid();
    private final Grid flows = new Grid();

    void begin(int places) {
      many = places;
      source = 0;
      goal = places - 1;
      rooms.clear();
      flows.clear();
    }

    void become(Net other) {
      many = other.many;
      source = other.source;
      goal = other.goal;
      rooms.become(other.rooms);
      flows.become(other.flows);
    }

    int allPlaces() {
      return (1 << many) - 1;
    }

    int nextInCircle(int place) {
      return place + 1 < many ? place + 1 : 0;
    }

    int leftOf(int from, int to) {
      return rooms.at(from, to) - flows.at(from, to);
    }

    int valueNow() {
      return flows.sumFrom(source, many);
    }

    int roomInAll() {
      int sum = 0;
      for (int place = 0; place < many; place++) {
        sum += rooms.sumFrom(place, many);
      }
      return sum;
    }

    void carry(int from, int to, int amount) {
      flows.put(from, to, flows.at(from, to) + amount);
      flows.put(to, from, flows.at(to, from) - amount);
    }

    void carryAlong(Row row, int amount) {
      for (int i = 1; i < row.length; i++) {
        carry(row.at(i - 1), row.at(i), amount);
      }
    }

    void turn() {
      rooms.turn(many);
      flows.turn(many);
      int kept = source;
      source = goal;
      goal = kept;
    }

    void exchange(int one, int other) {
      rooms.exchangePlaces(one, other, many);
      flows.exchangePlaces(one, other, many);
      source = exchanged(source, one, other);
      goal = exchanged(goal, one, other);
    }

    private static int exchanged(int place, int one, int other) {
      if (place == one) {
        return other;
      }
      return place == other ? one : place;
    }

    void narrowToOne() {
      for (int from = 0; from < many; from++) {
        for (int to = 0; to < many; to++) {
          rooms.put(from, to, Math.min(1, rooms.at(from, to)));
        }
      }
    }

    boolean isFlowLet() {
      for (int from = 0; from < many; from++) {
        for (int to = 0; to < many; to++) {
          if (leftOf(from, to) < 0 || flows.at(from, to) != -flows.at(to, from)) {
            return false;
          }
        }
      }
      return true;
    }

    boolean isKept() {
      for (int place = 0; place < many; place++) {
        if (place != source && place != goal && flows.sumFrom(place, many) != 0) {
          return false;
        }
      }
      return true;
    }
  }

  /** Finds tracks, and fills them; the last one found stays told. */
  private static final class TrackFinder {
    private final Row found = new Row();
    // For each place the set of those to which something is left.
    private final int[] onward = new int[MOST_PLACES];
    private int many;

    /** Fills the track by a rule so often, or till there is none; tells how often. */
    int fillTimes(Net net, int rule, int mostTimes) {
      for (int times = 0; times < mostTimes; times++) {
        find(net, rule);
        if (found.length == 0) {
          return times;
        }
        net.carryAlong(found, leastLeft(net));
      }
      return mostTimes;
    }

    private int leastLeft(Net net) {
      int least = BEYOND_ALL;
      for (int i = 1; i < found.length; i++) {
        least = Math.min(least, net.leftOf(found.at(i - 1), found.at(i)));
      }
      return least;
    }

    /** Leaves the row empty if there is no track. */
    void find(Net net, int rule) {
      found.clear();
      look(net);
      int steps = stepsBetween(net.source, net.goal);
      if (steps == NONE) {
        return;
      }
      int place = net.source;
      int been = 1 << place;
      found.add(place);
      for (int i = 1; i < many && place != net.goal; i++) {
        // Of the fewest steps none is left over; without this bound a track may wander.
        int reach = rule == 0 ? steps - i : many;
        int choice = onwardFrom(place) & comingTo(net.goal, reach, been);
        place = rule == 2 ? highest(choice) : lowest(choice);
        been |= 1 << place;
        found.add(place);
      }
    }

    int layerOf(Net net, int place) {
      look(net);
      return stepsBetween(net.source, place);
    }

    private void look(Net net) {
      many = net.many;
      for (int from = 0; from < many && from < onward.length; from++) {
        int set = 0;
        for (int to = 0; to < many; to++) {
          if (net.rooms.at(from, to) > net.flows.at(from, to)) {
            set |= 1 << to;
          }
        }
        onward[from] = set;
      }
    }

    private int onwardFrom(int place) {
      return place >= 0 && place < onward.length ? onward[place] : 0;
    }

    private int stepsBetween(int from, int to) {
      for (int steps = 0; steps < many; steps++) {
        if (holds(comingTo(to, steps, 0), from)) {
          return steps;
        }
      }
      return NONE;
    }

    /** The set from which one comes to the goal in so many steps or fewer, past none of been. */
    private int comingTo(int goal, int steps, int been) {
      int set = 1 << goal;
      for (int i = 0; i < steps; i++) {
        int nearer = set;
        for (int place = 0; place < many && place < onward.length; place++) {
          if ((been >> place & 1) == 0 && (onward[place] & nearer) != 0) {
            set |= 1 << place;
          }
        }
      }
      return set;
    }

    private int lowest(int set) {
      for (int place = 0; place < many; place++) {
        if (holds(set, place)) {
          return place;
        }
      }
      return NONE;
    }

    private int highest(int set) {
      for (int place = many - 1; place >= 0; place--) {
        if (holds(set, place)) {
          return place;
        }
      }
      return NONE;
    }
  }

  /** Tries all cuts of a net. */
  private static final class Cuts {
    static boolean isCut(Net net, int set) {
      return holds(set, net.source) && !holds(set, net.goal);
    }

    static int sumAcross(Net net, Grid grid, int set) {
      int sum = 0;
      for (int from = 0; from < net.many; from++) {
        for (int to = 0; to < net.many && holds(set, from); to++) {
          if (!holds(set, to)) {
            sum += grid.at(from, to);
          }
        }
      }
      return sum;
    }

    static int leastRoom(Net net) {
      int all = net.allPlaces();
      int least = BEYOND_ALL;
      for (int set = 0; set <= all; set++) {
        if (isCut(net, set)) {
          least = Math.min(least, sumAcross(net, net.rooms, set));
        }
      }
      return least;
    }

    static boolean isLeastCut(Net net, int set, int least) {
      return isCut(net, set) && sumAcross(net, net.rooms, set) == least;
    }

    static int countOfLeast(Net net) {
      int all = net.allPlaces();
      int least = leastRoom(net);
      int count = 0;
      for (int set = 0; set <= all; set++) {
        if (isLeastCut(net, set, least)) {
          count++;
        }
      }
      return count;
    }

    static int leastByNumber(Net net, int number) {
      int all = net.allPlaces();
      int least = leastRoom(net);
      int before = 0;
      for (int set = 0; set <= all; set++) {
        if (isLeastCut(net, set, least)) {
          if (before == number) {
            return set;
          }
          before++;
        }
      }
      return NONE;
    }

    static int nearest(Net net) {
      int least = leastRoom(net);
      int all = net.allPlaces();
      int common = all;
      for (int set = 0; set <= all; set++) {
        if (isLeastCut(net, set, least)) {
          common &= set;
        }
      }
      return common;
    }

    static int farthest(Net net) {
      int all = net.allPlaces();
      int least = leastRoom(net);
      int together = 0;
      for (int set = 0; set <= all; set++) {
        if (isLeastCut(net, set, least)) {
          together |= set;
        }
      }
      return together;
    }

    static boolean letEachThrough(Net net, int flow) {
      int all = net.allPlaces();
      for (int set = 0; set <= all; set++) {
        if (isCut(net, set) && sumAcross(net, net.flows, set) != flow) {
          return false;
        }
      }
      return true;
    }
  }

  /** Finds the first part of a flow; the last one found stays told. */
  private static final class PartFinder {
    private final Row row = new Row();
    private int amount;
    private boolean isRing;

    /** Tells whether there is one. */
    boolean find(Net net) {
      int value = net.valueNow();
      if (value > 0) {
        return walk(net, net.source, net.goal, value);
      }
      for (int place = 0; place < net.many; place++) {
        if (next(net, place) != NONE) {
          return walk(net, place, NONE, value);
        }
      }
      return false;
    }

    void takeFrom(Net net) {
      net.carryAlong(row, -amount);
    }

    private boolean walk(Net net, int start, int stop, int value) {
      row.clear();
      int been = 0;
      int place = start;
      for (int i = 0; i <= net.many && place != NONE; i++) {
        row.add(place);
        if (place == stop) {
          isRing = false;
          amount = Math.min(leastFlow(net), value);
          return true;
        }
        if (holds(been, place)) {
          row.startAt(place);
          isRing = true;
          amount = leastFlow(net);
          return true;
        }
        been |= 1 << place;
        place = next(net, place);
      }
      return false;
    }

    private static int next(Net net, int from) {
      for (int to = 0; to < net.many; to++) {
        if (net.flows.at(from, to) > 0) {
          return to;
        }
      }
      return NONE;
    }

    private int leastFlow(Net net) {
      int least = BEYOND_ALL;
      for (int i = 1; i < row.length; i++) {
        least = Math.min(least, net.flows.at(row.at(i - 1), row.at(i)));
      }
      return least;
    }
  }
}
