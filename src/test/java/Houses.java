/** Houses that tests begin with. */
final class Houses {
  private Houses() {}

  /** Keepers of strength 1 that are there by 5 tenths. */
  static MeetHouse equal(int keepers) {
    MeetHouse x = new MeetHouse();
    for (int i = 0; i < keepers; i++) x.keeper(1, 5);
    return x;
  }

  static MeetHouse ofStrengths(int... strengths) {
    MeetHouse x = new MeetHouse();
    for (int s : strengths) x.keeper(s, 5);
    return x;
  }

  static MeetHouse ofTenths(int... tenths) {
    MeetHouse x = new MeetHouse();
    for (int t : tenths) x.keeper(1, t);
    return x;
  }

  /**
   * Something of all: seven keepers, of which the first four have strengths 1, 2, 3, 1; families 0 of
   * QUORUMS 5, 6, 11, 12, 1 the plane of order 2 and 2 of QUORUMS 1, 2; THE PLAN of family 0 with parts
   * 10, 20, 30, 40; THE SHEET of family 1, forged; in places 0 family 1, 1 the set 9, 2 THE PLAN, 3 one of
   * family 2 with parts 1, 5, 4 one without any part but 0; a set in THE LIST.
   */
  static MeetHouse furnished() {
    MeetHouse x = ofStrengths(1, 2, 3, 1, 2, 1, 1);
    x.most(15);
    x.plane(2, 0);
    told(x, 1, 2);
    x.weight(2, 8);
    layPlans(x);
    x.even(0);
    for (int i = 0; i < 4; i++) x.part(i, 10 + 10 * i);
    x.lay(2, 3, 0);
    x.lay(0, 1, 1);
    x.lay(1, 2, 9);
    x.witness(1);
    x.forge(3, 6);
    x.list(3);
    return x;
  }

  private static void layPlans(MeetHouse x) {
    x.even(2);
    x.part(0, 0);
    x.lay(4, 3, 0);
    x.copy(4, 0, 4, 1, 1);
    x.part(0, 1);
    x.part(1, 5);
    x.lay(3, 3, 0);
  }

  /** The furnished one, and no room for another family. */
  static MeetHouse full() {
    MeetHouse x = furnished();
    x.told();
    fill(x);
    x.list(3);
    return x;
  }

  /** A family of told sets: its number. */
  static int told(MeetHouse x, int... sets) {
    for (int s : sets) x.list(s);
    return x.told();
  }

  /** A new house with families of told sets. */
  static MeetHouse ofFamilies(int keepers, int[]... families) {
    MeetHouse x = equal(keepers);
    for (int[] sets : families) told(x, sets);
    return x;
  }

  /** Fills the room for families with family {1}; THE LIST is empty before and behind it. */
  static void fill(MeetHouse x) {
    for (int i = x.size(1); i < 24; i++) told(x, 1);
  }

  /** The house with its room filled. */
  static MeetHouse filled(MeetHouse x) {
    fill(x);
    return x;
  }

  static int[] sets(int... sets) {
    return sets;
  }

  /** All pairs of a number of keepers from a first one on. */
  static int[] pairs(int first, int keepers) {
    int[] all = new int[keepers * (keepers - 1) / 2];
    int count = 0;
    for (int a = 0; a < keepers; a++) for (int b = 0; b < a; b++) all[count++] = (1 << a | 1 << b) << first;
    return all;
  }

  /** One keeper each, from a first one on. */
  static int[] ones(int first, int keepers) {
    int[] all = new int[keepers];
    for (int k = 0; k < keepers; k++) all[k] = 1 << first + k;
    return all;
  }

  /** The QUORUMS of a family are those, and no other. */
  static void quorums(String name, MeetHouse x, int f, int kind, int... sets) {
    Due.is(name + ": its kind", x.family(f, 0), kind);
    Due.is(name + ": how many", x.family(f, 1), sets.length);
    for (int i = 0; i < sets.length; i++) Due.is(name + ": quorum " + i, x.quorum(f, i), sets[i]);
    Due.is(name + ": behind the last", x.quorum(f, sets.length), -1);
  }
}
