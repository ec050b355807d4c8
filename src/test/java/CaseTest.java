/** Promises 37 to 41, 43 and 44. */
public final class CaseTest {
  private static final int MIN = Integer.MIN_VALUE;
  private static final int MAX = Integer.MAX_VALUE;
  private static final int[] NO_PLACE = {-1, 16, MAX, MIN};

  /** A PLAN of QUORUMS 5, 6, 11, 12 with parts 10, 20, 30, 40. */
  private static MeetHouse house() {
    MeetHouse x = Houses.ofStrengths(1, 2, 3, 1);
    x.even(x.most(15));
    for (int i = 0; i < 4; i++) x.part(i, 10 + 10 * i);
    return x;
  }

  private static void parts(String name, MeetHouse x, int k, int... parts) {
    for (int i = 0; i < parts.length; i++) Due.is(name + ": part " + i, x.taken(k, 3, i), parts[i]);
    Due.refused(x, name + ": behind the last", x.taken(k, 3, parts.length), 1);
  }

  private static void lay() {
    MeetHouse x = house();
    Due.is("a family", x.lay(0, 1, 0), 1);
    Due.is("a set", x.lay(1, 2, 15), 1);
    Due.is("a plan, n is of no matter", x.lay(15, 3, MIN), 1);
    Due.is("accepted", x.status(), 0);
    Due.is("nothing, n is of no matter", x.lay(1, 0, MAX), 1);
    Due.is("nothing lies there", x.lies(1), 0);
    Due.is("over another", x.lay(0, 2, 1), 1);
    Due.is("a set lies there", x.taken(0, 2, 0), 1);
    for (int k : NO_PLACE) Due.refused(x, "place " + k, x.lay(k, 9, 0), 1);
    for (int s : new int[] {-1, 4, MAX, MIN}) Due.refused(x, "sort " + s, x.lay(0, s, 0), 2);
    for (int f : new int[] {-1, 1, 24, MAX, MIN}) Due.refused(x, "family " + f, x.lay(0, 1, f), 1);
    for (int s : new int[] {0, 16, -1, MAX, MIN}) Due.refused(x, "set " + s, x.lay(0, 2, s), 2);
    Due.refused(x, "place ahead of set", x.lay(16, 2, 0), 1);
    Due.is("refused: it lies as it did", x.taken(0, 2, 0), 1);
    MeetHouse y = Houses.equal(1);
    Due.refused(y, "no plan", y.lay(0, 3, 0), 1);
  }

  private static void laidIsApart() {
    MeetHouse x = house();
    x.lay(0, 3, 0);
    x.part(0, 99);
    Due.is("the plan goes on", x.partOf(0), 99);
    parts("what was laid stays", x, 0, 10, 20, 30, 40);
    x.lay(1, 3, 0);
    x.copy(0, 1, 1, 2, 2);
    parts("changed", x, 1, 99, 20, 20, 30);
    parts("the other stays", x, 0, 10, 20, 30, 40);
    Due.is("the plan stays", x.partOf(2), 30);
    x.use(1);
    x.part(3, 7);
    parts("what was used stays", x, 1, 99, 20, 20, 30);
  }

  private static void lies() {
    MeetHouse x = house();
    x.lay(3, 1, 0);
    x.lay(4, 2, 1);
    x.lay(5, 3, 0);
    int[] due = {0, 0, 0, 1, 2, 3, 0};
    x.keeper(0, 0);
    for (int k = 0; k < due.length; k++) Due.is("lies " + k, x.lies(k), due[k]);
    Due.is("accepted", x.status(), 0);
    for (int k : NO_PLACE) Due.refused(x, "place " + k, x.lies(k), 1);
  }

  private static void taken() {
    MeetHouse x = house();
    x.lay(0, 1, 0);
    x.lay(1, 2, 9);
    x.lay(2, 3, 0);
    Due.is("family, i is of no matter", x.taken(0, 1, MIN), 0);
    Due.is("set, i is of no matter", x.taken(1, 2, MAX), 9);
    x.keeper(0, 0);
    Due.is("part", x.taken(2, 3, 3), 40);
    Due.is("accepted", x.status(), 0);
    for (int i : new int[] {-1, 4, 120, MAX, MIN}) Due.refused(x, "part " + i, x.taken(2, 3, i), 1);
    for (int k : NO_PLACE) Due.refused(x, "place " + k, x.taken(k, 9, 0), 1);
    for (int s : new int[] {0, 4, -1, MAX, MIN})
      for (int k = 0; k < 4; k++) Due.refused(x, "sort " + s, x.taken(k, s, 0), 2);
    for (int k = 0; k < 4; k++)
      for (int s = 1; s < 4; s++) if (s != k + 1) Due.refused(x, k + " for sort " + s, x.taken(k, s, 0), 6);
    Due.refused(x, "another thing, whatever i is", x.taken(0, 3, -1), 6);
  }

  private static void copy() {
    MeetHouse x = house();
    x.lay(0, 3, 0);
    x.lay(1, 3, 0);
    x.lay(2, 1, 0);
    Due.is("to another", x.copy(0, 0, 1, 1, 3), 1);
    Due.is("accepted", x.status(), 0);
    parts("to another", x, 1, 10, 10, 20, 30);
    Due.is("upwards in one", x.copy(0, 0, 0, 1, 3), 1);
    parts("upwards: as they were", x, 0, 10, 10, 20, 30);
    x.undo();
    Due.is("downwards in one", x.copy(0, 1, 0, 0, 3), 1);
    parts("downwards: as they were", x, 0, 20, 30, 40, 40);
    int acts = x.size(3);
    Due.is("none", x.copy(0, 4, 1, 4, 0), 1);
    Due.is("none is an act too", x.size(3), acts + 1);
    Due.is("all", x.copy(0, 0, 1, 0, 4), 1);
    parts("all", x, 1, 20, 30, 40, 40);
    for (int k : NO_PLACE) {
      Due.refused(x, "from " + k, x.copy(k, -1, 2, 0, 1), 1);
      Due.refused(x, "to " + k, x.copy(2, -1, k, 0, 1), 1);
    }
    for (int k : new int[] {2, 3}) {
      Due.refused(x, "from " + k, x.copy(k, -1, 0, 0, 1), 6);
      Due.refused(x, "to " + k, x.copy(0, -1, k, 0, 1), 6);
    }
    int[][] wrong = {{-1, 0, 1}, {0, -1, 1}, {0, 0, -1}, {0, 0, 5}, {4, 0, 1}, {0, 4, 1}, {5, 0, 0}, {0, 5, 0},
        {MAX, 0, MAX}, {0, MAX, MAX}, {1, 1, MAX}, {MIN, MIN, MIN}, {3, 0, 2}, {0, 3, 2}};
    for (int[] w : wrong) Due.refused(x, "copy " + w[0] + " " + w[1] + " " + w[2], x.copy(0, w[0], 1, w[1], w[2]), 2);
    parts("refused: as it was", x, 1, 20, 30, 40, 40);
  }

  private static void copyOfUnlikeLengths() {
    MeetHouse x = house();
    x.lay(0, 3, 0);
    x.even(Houses.told(x, 1, 2));
    x.lay(1, 3, 0);
    Due.refused(x, "not so many there", x.copy(0, 0, 1, 0, 3), 2);
    Due.refused(x, "not so many here", x.copy(1, 0, 0, 0, 3), 2);
    Due.is("two", x.copy(0, 2, 1, 0, 2), 1);
    parts("two", x, 1, 30, 40);
  }

  private static void use() {
    MeetHouse x = house();
    x.lay(0, 3, 0);
    x.lay(1, 1, 0);
    x.even(Houses.told(x, 1));
    Due.is("use", x.use(0), 1);
    Due.is("accepted", x.status(), 0);
    Due.is("its family", x.load(0), 0);
    for (int i = 0; i < 4; i++) Due.is("its part " + i, x.partOf(i), 10 + 10 * i);
    for (int k : NO_PLACE) Due.refused(x, "use " + k, x.use(k), 1);
    Due.refused(x, "a family", x.use(1), 6);
    Due.refused(x, "nothing", x.use(2), 6);
    x.part(0, 0);
    x.lay(3, 3, 0);
    for (int i = 1; i < 4; i++) x.copy(3, 0, 3, i, 1);
    parts("all 0", x, 3, 0, 0, 0, 0);
    Due.refused(x, "all parts are 0", x.use(3), 5);
    Due.is("the plan stays", x.partOf(3), 40);
  }

  private static void size() {
    MeetHouse x = house();
    x.list(1);
    x.list(2);
    x.witness(0);
    x.keeper(0, 0);
    int[] due = {4, 1, 2, 10, 6};
    for (int w = 0; w < 5; w++) Due.is("size " + w, x.size(w), due[w]);
    for (int w : new int[] {-1, 5, MAX, MIN}) Due.is("size " + w, x.size(w), -1);
    Due.is("the status is of keeper()", x.status(), 2);
  }

  private static void status() {
    MeetHouse x = house();
    Due.is("accepted", x.status(), 0);
    x.keeper(0, 0);
    Due.is("refused", x.status(), 2);
    Due.is("status leaves it", x.status(), 2);
    x.undo();
    Due.is("undo leaves it", x.status(), 2);
    x.has(0, 0);
    Due.is("a call that wasn't refused", x.status(), 0);
    x.use(0);
    x.partOf(0);
    x.loadOf(0, false);
    x.load(1);
    x.names(0);
    x.size(0);
    x.family(0, 0);
    x.quorum(0, 0);
    x.keeperOf(0, 0);
    Due.is("calls that are never refused leave it", x.status(), 6);
  }

  /** What stands behind a refusal tells 6 here, so that 0 can only come from the call itself. */
  private static void accepted(MeetHouse x, String call, long got) {
    Due.is("status behind " + call + " = " + got, x.status(), 0);
    Due.refused(x, "nothing lies in 9", x.use(9), 6);
  }

  private static void accepted(MeetHouse x, String call, boolean got) {
    Due.is(call, got, true);
    accepted(x, call, 1);
  }

  private static void statusOfAll() {
    MeetHouse x = house();
    x.lay(0, 3, 0);
    x.use(9);
    for (int i = 0; i < 3; i++) accepted(x, "keeper", x.keeper(1, 1));
    accepted(x, "tenths", x.tenths(0, 1));
    accepted(x, "list", x.list(7));
    accepted(x, "told", x.told());
    accepted(x, "most", x.most(7));
    accepted(x, "grid", x.grid(2, 2, 0));
    accepted(x, "wall", x.wall(0, 2, 2, 0, 0, 0));
    accepted(x, "tree", x.tree(2, 0));
    accepted(x, "plane", x.plane(2, 0));
    accepted(x, "join", x.join(0, 0, 1));
    accepted(x, "dual", x.dual(0));
    accepted(x, "thin", x.thin(0, 15));
    accepted(x, "both", x.both(0, 1));
    accepted(x, "better", x.better(0));
    accepted(x, "has", x.has(0, 1));
    accepted(x, "apart", x.apart(0, 0));
    accepted(x, "hit", x.hit(0));
    accepted(x, "falls", x.falls(0));
    accepted(x, "liars", x.liars(0, false));
    accepted(x, "chance", x.chance(0));
    accepted(x, "even", x.even(0));
    accepted(x, "part", x.part(0, 3));
    accepted(x, "weight", x.weight(0, 3));
    accepted(x, "bound", x.bound(0, false));
    accepted(x, "proved", x.proved());
    accepted(x, "witness", x.witness(0));
    accepted(x, "forge", x.forge(0, 1));
    accepted(x, "judge", x.judge(0));
    accepted(x, "judge of another number", x.judge(1));
    accepted(x, "lay", x.lay(1, 1, 0));
    accepted(x, "lies", x.lies(1));
    accepted(x, "taken", x.taken(1, 1, 0));
    accepted(x, "taken of a plan", x.taken(0, 3, 0));
    accepted(x, "copy", x.copy(0, 0, 0, 1, 1));
    accepted(x, "use", x.use(0));
    int split = Houses.told(x, 1, 2);
    x.use(9);
    accepted(x, "liars, NONE", x.liars(split, false));
  }

  public static void main(String[] args) {
    lay();
    laidIsApart();
    lies();
    taken();
    copy();
    copyOfUnlikeLengths();
    use();
    size();
    status();
    statusOfAll();
    Due.end();
  }
}
