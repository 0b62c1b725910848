/** Places and rooms that the tests look at. */
final class Nets {
  private Nets() {
  }

  /** Rooms told as from, to, room, and again. */
  static Brookmill of(int many, int... rooms) {
    Brookmill b = new Brookmill();
    b.places(many);
    for (int i = 0; i + 2 < rooms.length; i += 3) {
      b.room(rooms[i], rooms[i + 1], rooms[i + 2]);
    }
    return b;
  }

  /** Four places in which the tracks by the three rules are unlike: 0-1-3, 0-1-2-3, 0-2-3. */
  static Brookmill diamond() {
    return of(4, 0, 1, 6, 0, 2, 5, 1, 2, 4, 1, 3, 3, 2, 3, 9, 2, 1, 2);
  }

  /** A line of five places with rooms 7, 3, 3, 5: two least cuts, {0, 1} and {0, 1, 2}. */
  static Brookmill line() {
    return of(5, 0, 1, 7, 1, 2, 3, 2, 3, 3, 3, 4, 5);
  }

  /** Each pair has the same room. */
  static Brookmill even(int many, int room) {
    Brookmill b = new Brookmill();
    b.places(many);
    for (int from = 0; from < many; from++) {
      for (int to = 0; to < many; to++) {
        if (from != to) {
          b.room(from, to, room);
        }
      }
    }
    return b;
  }
}
