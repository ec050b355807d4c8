/** Houses that tests begin with. */
final class Houses {
  private Houses() {}

  /** Keepers of strength 1 that are there by 5 tenths. */
  static MeetHouse equal(int keepers) {
    MeetHouse x = new MeetHouse();
    for (int i = 0; i < keepers; i++) x.keeper(1, 5);
    return x;
  }

  static MeetHouse ofStrengths(int... strengths) {
    MeetHouse x = new MeetHouse();
    for (int s : strengths) x.keeper(s, 5);
    return x;
  }

  static MeetHouse ofTenths(int... tenths) {
    MeetHouse x = new MeetHouse();
    for (int t : tenths) x.keeper(1, t);
    return x;
  }

  /** A family of told sets: its number. */
  static int told(MeetHouse x, int... sets) {
    for (int s : sets) x.list(s);
    return x.told();
  }

  /** Fills the room for families with family {1}. */
  static void fill(MeetHouse x) {
    for (int i = x.size(1); i < 24; i++) told(x, 1);
  }

  static void quorums(String name, MeetHouse x, int f, int kind, int... sets) {
    Due.is(name + ": its kind", x.family(f, 0), kind);
    Due.is(name + ": how many", x.family(f, 1), sets.length);
    for (int i = 0; i < sets.length; i++) Due.is(name + ": quorum " + i, x.quorum(f, i), sets[i]);
    Due.is(name + ": behind the last", x.quorum(f, sets.length), -1);
  }
}
