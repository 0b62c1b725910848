import java.util.ArrayList;
import java.util.Arrays;
import java.util.List;

/** The document written down a second time, by listing all there is: slow, for small nets. */
public final class PlainModel {
  private int n;
  private int s;
  private int g;
  private int[][] room;
  private int[][] flow;
  private final int[] house = new int[3];

  public PlainModel() {
    begin(6);
  }

  private void begin(int many) {
    n = many;
    s = 0;
    g = many - 1;
    room = new int[many][many];
    flow = new int[many][many];
  }

  private void place(int... asked) {
    for (int p : asked) {
      if (p < 0 || p >= n) {
        throw new IndexOutOfBoundsException();
      }
    }
  }

  private static void let(boolean isLet) {
    if (!isLet) {
      throw new IllegalArgumentException();
    }
  }

  private int act(int answer) {
    house[0]++;
    return answer;
  }

  private int not() {
    house[1]++;
    return -9;
  }

  private int worth() {
    return Arrays.stream(flow[s]).sum();
  }

  private int left(int a, int b) {
    return room[a][b] - flow[a][b];
  }

  private static void push(int[][] flow, int a, int b, int by) {
    flow[a][b] += by;
    flow[b][a] -= by;
  }

  public int places(int many) {
    let(many >= 2 && many <= 9);
    int before = n;
    begin(many);
    return act(before);
  }

  public int ends(int source, int goal) {
    place(source, goal);
    let(source != goal);
    int before = worth();
    s = source;
    g = goal;
    flow = new int[n][n];
    return act(before);
  }

  public int room(int from, int to, int wide) {
    place(from, to);
    let(from != to && wide >= 0 && wide <= 50);
    if (flow[from][to] > wide) {
      return not();
    }
    int before = room[from][to];
    room[from][to] = wide;
    return act(before);
  }

  public int widen(int from, int to, int by) {
    place(from, to);
    let(from != to && by >= -50 && by <= 50);
    int wide = room[from][to] + by;
    if (wide < 0 || wide > 50 || flow[from][to] > wide) {
      return not();
    }
    room[from][to] = wide;
    return act(wide);
  }

  public int circle(int wide) {
    let(wide >= 0 && wide <= 50);
    int others = 0;
    int[][] told = copy(room);
    for (int p = 0; p < n; p++) {
      int q = (p + 1) % n;
      if (flow[p][q] > wide) {
        return not();
      }
      others += told[p][q] != wide ? 1 : 0;
      told[p][q] = wide;
    }
    room = told;
    return act(others);
  }

  public int strew(int seed) {
    let(seed >= 0 && seed <= 9999);
    flow = new int[n][n];
    int sum = 0;
    for (int a = 0; a < n; a++) {
      for (int b = 0; b < n; b++) {
        if (a != b) {
          int r = (seed + 7 * a + 3 * b + a * b) % 11 - 4;
          room[a][b] = r < 0 ? 0 : r;
          sum += room[a][b];
        }
      }
    }
    return act(sum);
  }

  public int turnRound() {
    room = turned(room);
    flow = turned(flow);
    int kept = s;
    s = g;
    g = kept;
    return act(worth());
  }

  private int[][] turned(int[][] m) {
    int[][] t = new int[n][n];
    for (int a = 0; a < n; a++) {
      for (int b = 0; b < n; b++) {
        t[a][b] = m[b][a];
      }
    }
    return t;
  }

  public int swap(int one, int other) {
    place(one, other);
    int[] now = new int[n];
    for (int p = 0; p < n; p++) {
      now[p] = p == one ? other : p == other ? one : p;
    }
    int[][] newRoom = new int[n][n];
    int[][] newFlow = new int[n][n];
    for (int a = 0; a < n; a++) {
      for (int b = 0; b < n; b++) {
        newRoom[now[a]][now[b]] = room[a][b];
        newFlow[now[a]][now[b]] = flow[a][b];
      }
    }
    room = newRoom;
    flow = newFlow;
    s = now[s];
    g = now[g];
    return act(g);
  }

  private static int[][] copy(int[][] m) {
    int[][] other = new int[m.length][];
    for (int i = 0; i < m.length; i++) {
      other[i] = m[i].clone();
    }
    return other;
  }

  /** All tracks, each one ahead of the next one. */
  private static List<List<Integer>> tracks(int[][] left, int source, int goal) {
    List<List<Integer>> all = new ArrayList<>();
    List<Integer> begun = new ArrayList<>();
    begun.add(source);
    grow(left, goal, begun, all);
    return all;
  }

  private static void grow(int[][] left, int goal, List<Integer> begun, List<List<Integer>> all) {
    int last = begun.get(begun.size() - 1);
    if (last == goal) {
      all.add(new ArrayList<>(begun));
      return;
    }
    for (int next = 0; next < left.length; next++) {
      if (left[last][next] > 0 && !begun.contains(next)) {
        begun.add(next);
        grow(left, goal, begun, all);
        begun.remove(begun.size() - 1);
      }
    }
  }

  private static List<Integer> byRule(int[][] left, int source, int goal, int rule) {
    List<List<Integer>> all = tracks(left, source, goal);
    if (all.isEmpty()) {
      return new ArrayList<>();
    }
    if (rule > 0) {
      return all.get(rule == 1 ? 0 : all.size() - 1);
    }
    List<Integer> best = all.get(0);
    for (List<Integer> one : all) {
      best = one.size() < best.size() ? one : best;
    }
    return best;
  }

  private static int[][] leftOf(int[][] room, int[][] flow) {
    int[][] left = copy(room);
    for (int a = 0; a < left.length; a++) {
      for (int b = 0; b < left.length; b++) {
        left[a][b] -= flow[a][b];
      }
    }
    return left;
  }

  private static int fillOnce(int[][] room, int[][] flow, int source, int goal, int rule) {
    int[][] left = leftOf(room, flow);
    List<Integer> track = byRule(left, source, goal, rule);
    int least = track.isEmpty() ? 0 : 999;
    for (int i = 1; i < track.size(); i++) {
      least = Math.min(least, left[track.get(i - 1)][track.get(i)]);
    }
    for (int i = 1; i < track.size(); i++) {
      push(flow, track.get(i - 1), track.get(i), least);
    }
    return least;
  }

  private static int most(int[][] room, int source, int goal, int rule) {
    int[][] flow = new int[room.length][room.length];
    int sum = 0;
    for (int sent = 1; sent > 0; sum += sent) {
      sent = fillOnce(room, flow, source, goal, rule);
    }
    return sum;
  }

  public int step(int rule) {
    let(rule >= 0 && rule <= 2);
    return act(fillOnce(room, flow, s, g, rule));
  }

  public int fill(int rule) {
    let(rule >= 0 && rule <= 2);
    int times = 0;
    while (fillOnce(room, flow, s, g, rule) > 0) {
      times++;
    }
    return act(times);
  }

  public int send(int over, int many) {
    place(over);
    let(many >= 0 && many <= 50);
    int[] by = over == s || over == g ? new int[] {s, g} : new int[] {s, over, g};
    for (int i = 1; i < by.length; i++) {
      if (left(by[i - 1], by[i]) < many) {
        return not();
      }
    }
    for (int i = 1; i < by.length; i++) {
      push(flow, by[i - 1], by[i], many);
    }
    return act(worth());
  }

  public int round(int one, int other, int third, int many) {
    place(one, other, third);
    let(one != other && other != third && one != third && many >= 0 && many <= 50);
    if (Math.min(left(one, other), Math.min(left(other, third), left(third, one))) < many) {
      return not();
    }
    push(flow, one, other, many);
    push(flow, other, third, many);
    push(flow, third, one, many);
    return act((int) Arrays.stream(flow).flatMapToInt(Arrays::stream).filter(f -> f > 0).count());
  }

  private record Part(List<Integer> on, boolean isRing, int amount) {
  }

  private static int firstOnward(int[][] rest, int from) {
    for (int to = 0; to < rest.length; to++) {
      if (rest[from][to] > 0) {
        return to;
      }
    }
    return -1;
  }

  /** The parts of a flow, which is used up by it down to nothing. */
  private List<Part> partsOf(int[][] rest) {
    List<Part> found = new ArrayList<>();
    while (Arrays.stream(rest[s]).sum() > 0) {
      found.add(partFrom(rest, s, g));
    }
    for (int p = 0; p < n; p++) {
      while (firstOnward(rest, p) >= 0) {
        found.add(partFrom(rest, p, -1));
      }
    }
    return found;
  }

  private Part partFrom(int[][] rest, int start, int stop) {
    int value = Arrays.stream(rest[s]).sum();
    List<Integer> on = new ArrayList<>();
    int p = start;
    while (p != stop && !on.contains(p)) {
      on.add(p);
      p = firstOnward(rest, p);
    }
    boolean isRing = p != stop;
    if (isRing) {
      on = new ArrayList<>(on.subList(on.indexOf(p), on.size()));
    }
    on.add(p);
    int amount = isRing ? 999 : value;
    for (int i = 1; i < on.size(); i++) {
      amount = Math.min(amount, rest[on.get(i - 1)][on.get(i)]);
    }
    for (int i = 1; i < on.size(); i++) {
      push(rest, on.get(i - 1), on.get(i), -amount);
    }
    return new Part(on, isRing, amount);
  }

  public int peel() {
    List<Part> all = partsOf(copy(flow));
    if (all.isEmpty()) {
      return act(0);
    }
    Part first = all.get(0);
    for (int i = 1; i < first.on.size(); i++) {
      push(flow, first.on.get(i - 1), first.on.get(i), -first.amount);
    }
    return act(first.amount);
  }

  public int empty() {
    int before = worth();
    flow = new int[n][n];
    return act(before);
  }

  public int told(int what) {
    let(what >= 0 && what <= 4);
    int count = 0;
    int sum = 0;
    for (int[] row : room) {
      for (int r : row) {
        count += r > 0 ? 1 : 0;
        sum += r;
      }
    }
    return new int[] {n, s, g, count, sum}[what];
  }

  public int pair(int from, int to, int what) {
    place(from, to);
    let(what >= 0 && what <= 2);
    return from == to ? 0 : new int[] {room[from][to], flow[from][to], left(from, to)}[what];
  }

  public int ofPlace(int place, int what) {
    place(place);
    let(what >= 0 && what <= 3);
    int[] sums = new int[4];
    for (int p = 0; p < n; p++) {
      sums[0] += room[place][p];
      sums[1] += room[p][place];
      sums[2] += flow[place][p];
      sums[3] += flow[place][p] > 0 ? flow[place][p] : 0;
    }
    return sums[what];
  }

  private String rowText(int[] row) {
    List<String> told = new ArrayList<>();
    for (int p = 0; p < n; p++) {
      if (row[p] > 0) {
        told.add(p + ":" + row[p]);
      }
    }
    return String.join(" ", told);
  }

  public String roomText(int place) {
    place(place);
    return rowText(room[place]);
  }

  private boolean isCut(int set) {
    return (set & 1 << s) != 0 && (set & 1 << g) == 0;
  }

  private int across(int[][] m, int set) {
    int sum = 0;
    for (int a = 0; a < n; a++) {
      for (int b = 0; b < n; b++) {
        sum += (set & 1 << a) != 0 && (set & 1 << b) == 0 ? m[a][b] : 0;
      }
    }
    return sum;
  }

  private List<Integer> leastCuts(int[][] m) {
    List<Integer> cuts = new ArrayList<>();
    int least = 99999;
    for (int set = 0; set < 1 << n; set++) {
      if (isCut(set) && across(m, set) <= least) {
        if (across(m, set) < least) {
          cuts.clear();
        }
        least = across(m, set);
        cuts.add(set);
      }
    }
    return cuts;
  }

  public int cut(int set) {
    let(set >= 0 && set < 1 << n);
    return isCut(set) ? across(room, set) : -9;
  }

  public int least() {
    return across(room, leastCuts(room).get(0));
  }

  public boolean isLeast(int set) {
    let(set >= 0 && set < 1 << n);
    return leastCuts(room).contains(set);
  }

  public int leasts() {
    return leastCuts(room).size();
  }

  public int nthLeast(int number) {
    let(number >= 0);
    List<Integer> cuts = leastCuts(room);
    return number < cuts.size() ? cuts.get(number) : -1;
  }

  /** The one that is within each other one, or in which each other one is. */
  public int end(boolean isFar) {
    for (int one : leastCuts(room)) {
      boolean isEnd = true;
      for (int other : leastCuts(room)) {
        isEnd &= isFar ? (other & ~one) == 0 : (one & ~other) == 0;
      }
      if (isEnd) {
        return one;
      }
    }
    throw new IllegalStateException("no such end");
  }

  public int value() {
    return worth();
  }

  public int most(int rule) {
    let(rule >= 0 && rule <= 2);
    return most(room, s, g, rule);
  }

  public boolean isMost() {
    return worth() == least();
  }

  public String track(int rule) {
    let(rule >= 0 && rule <= 2);
    return joined(byRule(leftOf(room, flow), s, g, rule));
  }

  private static String joined(List<Integer> on) {
    List<String> told = new ArrayList<>();
    for (int p : on) {
      told.add("" + p);
    }
    return String.join("-", told);
  }

  public int layer(int place) {
    place(place);
    int[] far = new int[n];
    Arrays.fill(far, 99);
    far[s] = 0;
    for (int again = 0; again < n; again++) {
      for (int a = 0; a < n; a++) {
        for (int b = 0; b < n; b++) {
          far[b] = a != b && left(a, b) > 0 ? Math.min(far[b], far[a] + 1) : far[b];
        }
      }
    }
    return far[place] >= 99 ? -1 : far[place];
  }

  public int through(int set) {
    let(set >= 0 && set < 1 << n);
    return isCut(set) ? across(flow, set) : -9;
  }

  public int parts(boolean isRings) {
    int count = 0;
    for (Part part : partsOf(copy(flow))) {
      count += part.isRing == isRings ? 1 : 0;
    }
    return count;
  }

  public String partsText() {
    List<String> told = new ArrayList<>();
    for (Part part : partsOf(copy(flow))) {
      told.add(joined(part.on) + ":" + part.amount);
    }
    return String.join(" ", told);
  }

  public String flowText(int place) {
    place(place);
    return rowText(flow[place]);
  }

  public int would(int from, int to, int by) {
    place(from, to);
    let(from != to && by >= -1 && by <= 1);
    int[][] told = copy(room);
    told[from][to] += by;
    return told[from][to] < 0 ? -9 : across(told, leastCuts(told).get(0));
  }

  public int between(int from, int to) {
    place(from, to);
    let(from != to);
    return most(room, from, to, 0);
  }

  public int about() {
    return most(turned(room), g, s, 0);
  }

  public int apart(int how) {
    let(how >= 0 && how <= 1);
    int[][] ones = copy(room);
    for (int[] row : ones) {
      for (int p = 0; p < n; p++) {
        row[p] = row[p] > 0 ? 1 : 0;
      }
    }
    return across(ones, leastCuts(ones).get(0));
  }

  public int house(int what) {
    let(what >= 0 && what <= 2);
    return house[what];
  }

  public int knock() {
    return ++house[2];
  }

  public boolean isSound() {
    return true;
  }

  public long digest() {
    List<Long> v = new ArrayList<>();
    for (int what = 0; what <= 4; what++) {
      v.add((long) told(what));
    }
    for (int p = 0; p < n; p++) {
      for (int what = 0; what <= 3; what++) {
        v.add((long) ofPlace(p, what));
      }
      v.add((long) layer(p));
      for (int q = 0; q < n; q++) {
        v.add((long) room[p][q]);
        v.add((long) flow[p][q]);
      }
    }
    long[] last = {worth(), least(), leasts(), end(false), end(true), parts(false), parts(true),
        partsText().length(), apart(0), house[0], house[1], house[2], 1};
    for (long one : last) {
      v.add(one);
    }
    long d = 8026;
    for (long one : v) {
      d = d * 31 + one;
    }
    return d;
  }
}
