/** Promises 25 to 32. */
public final class PlansTest {
  private static final int MIN = Integer.MIN_VALUE;
  private static final int MAX = Integer.MAX_VALUE;

  /** QUORUMS 5, 6, 11, 12 of keepers of strengths 1, 2, 3, 1. */
  private static MeetHouse house() {
    MeetHouse x = Houses.ofStrengths(1, 2, 3, 1);
    x.most(15);
    return x;
  }

  private static void loadIs(String name, MeetHouse x, int f, int upper, int lower, int keeper) {
    Due.is(name + ": family", x.load(0), f);
    Due.is(name + ": upper", x.load(1), upper);
    Due.is(name + ": lower", x.load(2), lower);
    Due.is(name + ": keeper", x.load(3), keeper);
  }

  private static void even() {
    MeetHouse x = house();
    Due.refused(x, "no such family", x.even(1), 1);
    Due.refused(x, "below 0", x.even(-1), 1);
    Due.refused(x, "far", x.even(MAX), 1);
    Due.is("no plan came", x.load(0), -1);
    Due.is("even", x.even(0), true);
    Due.is("accepted", x.status(), 0);
    for (int i = 0; i < 4; i++) Due.is("part " + i, x.partOf(i), 1);
    x.part(2, 9);
    Due.is("even again", x.even(0), true);
    Due.is("each is 1 again", x.partOf(2), 1);
    int f = Houses.told(x, 1);
    Due.is("of another", x.even(f), true);
    Due.is("its family", x.load(0), f);
    Due.is("its parts", x.partOf(1), -1);
  }

  private static void part() {
    MeetHouse x = house();
    Due.refused(x, "no plan", x.part(0, 1), 1);
    Due.refused(x, "no plan ahead of a number", x.part(0, -1), 1);
    x.even(0);
    for (int i : new int[] {-1, 4, 120, MAX, MIN}) Due.refused(x, "quorum " + i, x.part(i, 1001), 1);
    for (int p : new int[] {-1, 1001, MAX, MIN}) Due.refused(x, "part " + p, x.part(0, p), 2);
    Due.is("greatest", x.part(0, 1000), true);
    Due.is("accepted", x.status(), 0);
    Due.is("became", x.partOf(0), 1000);
    Due.is("0", x.part(0, 0), true);
    Due.is("0", x.part(1, 0), true);
    Due.is("0", x.part(2, 0), true);
    Due.refused(x, "all would be 0", x.part(3, 0), 2);
    Due.is("stays", x.partOf(3), 1);
    Due.is("0 once more is fine", x.part(2, 0), true);
    Due.is("two", x.part(3, 2), true);
  }

  private static void partOf() {
    MeetHouse x = house();
    Due.is("no plan", x.partOf(0), -1);
    x.even(0);
    x.part(3, 77);
    x.keeper(0, 0);
    Due.is("3", x.partOf(3), 77);
    Due.is("2", x.partOf(2), 1);
    for (int i : new int[] {-1, 4, 119, 120, MAX, MIN}) Due.is("partOf " + i, x.partOf(i), -1);
    Due.is("the status is of keeper()", x.status(), 2);
  }

  private static void load() {
    MeetHouse x = house();
    for (int w = -1; w < 5; w++) Due.is("no plan, what " + w, x.load(w), -1);
    x.even(0);
    loadIs("even", x, 0, 1, 2, 0);
    x.part(0, 0);
    x.part(1, 500);
    loadIs("parts 0 500 1 1", x, 0, 501, 1004, 1);
    x.part(1, 0);
    loadIs("parts 0 0 1 1", x, 0, 1, 1, 3);
    x.keeper(0, 0);
    for (int w : new int[] {-1, 4, MAX, MIN}) Due.is("what " + w, x.load(w), -1);
    Due.is("the status is of keeper()", x.status(), 2);
    x.bound(0, false);
    x.even(0);
    Due.is("the lower one alone", x.load(2), 2);
    x.bound(0, false);
    Due.is("the upper one alone", x.load(1), 1);
    MeetHouse y = Houses.ofStrengths(100, 100);
    y.even(Houses.told(y, 2));
    loadIs("the strongest", y, 0, 1, 100, 1);
    MeetHouse z = Houses.ofStrengths(2, 1, 2, 1, 1);
    z.even(Houses.told(z, 5, 10));
    loadIs("the least of those that have it", z, 0, 1, 2, 1);
  }

  private static void loadOfWideParts() {
    MeetHouse x = Houses.equal(16);
    int sets = 0;
    for (int a = 1; a < 16; a++) for (int b = 1; b < a; b++) if (sets++ < 105) x.list(1 << a | 1 << b | 1);
    x.even(x.told());
    for (int i = 0; i < 105; i++) x.part(i, 1000);
    loadIs("all parts 1000", x, 0, 1, 1, 0);
    Due.is("of 15: 14 of 105", x.loadOf(15, false), 2);
    Due.is("of 15: 14 of 105, lower", x.loadOf(15, true), 15);
    x.part(0, 999);
    Due.is("of 15: 14000 of 104999", x.loadOf(15, false), 14000);
    Due.is("of 15: lower", x.loadOf(15, true), 104999);
  }

  private static void widestPlan() {
    MeetHouse x = Houses.equal(16);
    for (int a = 0; a < 16; a++) for (int b = 0; b < a; b++) x.list(1 << a | 1 << b);
    int f = x.told();
    Due.is("120 parts", x.even(f), true);
    loadIs("even", x, f, 1, 8, 0);
    Due.is("the last", x.part(119, 1000), true);
    Due.is("behind it", x.partOf(120), -1);
    loadIs("the last two keepers", x, f, 338, 373, 14);
    x.lay(0, 3, 0);
    Due.is("all go over", x.copy(0, 0, 0, 0, 120), 1);
    Due.is("all but one go down", x.copy(0, 1, 0, 0, 119), 1);
    Due.is("the last moved", x.taken(0, 3, 118), 1000);
    Due.is("the last stays", x.taken(0, 3, 119), 1000);
    Due.is("used", x.use(0), 1);
    loadIs("two of 1000", x, f, 671, 706, 15);
    x.even(Houses.told(x, 1, 2, 4));
    loadIs("of three", x, f + 1, 1, 3, 0);
    Due.is("no more parts than three", x.partOf(3), -1);
    x.undo();
    Due.is("back", x.partOf(118), 1000);
    Due.is("no weights", x.proved(), 1);
  }

  private static void loadOf() {
    MeetHouse x = house();
    Due.is("no plan", x.loadOf(0, false), -1);
    x.even(0);
    int[][] due = {{1, 2}, {1, 4}, {1, 4}, {1, 2}};
    for (int k = 0; k < 4; k++) {
      Due.is("upper of " + k, x.loadOf(k, false), due[k][0]);
      Due.is("lower of " + k, x.loadOf(k, true), due[k][1]);
    }
    x.keeper(9, 9);
    Due.is("in none", x.loadOf(4, false), 0);
    Due.is("in none, lower", x.loadOf(4, true), 1);
    x.keeper(0, 0);
    for (int k : new int[] {-1, 5, 16, MAX, MIN}) {
      Due.is("keeper " + k, x.loadOf(k, false), -1);
      Due.is("keeper " + k, x.loadOf(k, true), -1);
    }
    Due.is("the status is of keeper()", x.status(), 2);
  }

  private static void weight() {
    MeetHouse x = house();
    Due.is("at first", x.keeperOf(1, 2), 0);
    Due.is("greatest", x.weight(1, 1000), true);
    Due.is("accepted", x.status(), 0);
    Due.is("became", x.keeperOf(1, 2), 1000);
    Due.is("least", x.weight(1, 0), true);
    Due.is("became 0", x.keeperOf(1, 2), 0);
    for (int k : new int[] {-1, 4, 16, MAX, MIN}) Due.refused(x, "keeper " + k, x.weight(k, 1001), 1);
    for (int w : new int[] {-1, 1001, MAX, MIN}) Due.refused(x, "weight " + w, x.weight(1, w), 2);
    Due.is("stays", x.keeperOf(1, 2), 0);
  }

  private static void boundIs(String name, MeetHouse x, int f, int upper, int lower) {
    Due.is(name + ": upper", x.bound(f, false), upper);
    Due.is(name + ": lower", x.bound(f, true), lower);
    Due.is(name + ": accepted", x.status(), 0);
  }

  private static void bound() {
    MeetHouse x = house();
    boundIs("all weights are 0", x, 0, 0, 1);
    x.weight(0, 1);
    boundIs("a quorum without it", x, 0, 0, 1);
    x.weight(1, 2);
    x.weight(2, 3);
    x.weight(3, 1);
    boundIs("4 of 15", x, 0, 4, 15);
    x.weight(2, 1);
    boundIs("2 of 9", x, 0, 2, 9);
    x.keeper(100, 0);
    x.weight(4, 1000);
    boundIs("weights of all keepers count", x, 0, 2, 100009);
    int f = Houses.told(x, 16);
    boundIs("in lowest terms", x, f, 1000, 100009);
    for (int g : new int[] {-1, 2, 24, MAX, MIN}) {
      Due.refused(x, "bound " + g, x.bound(g, false), 1);
      Due.refused(x, "lower bound " + g, x.bound(g, true), 1);
    }
  }

  private static void boundOfGreatWeights() {
    MeetHouse x = new MeetHouse();
    for (int k = 0; k < 16; k++) {
      x.keeper(100, 5);
      x.weight(k, 1000);
    }
    boundIs("16000 of 1600000", x, Houses.told(x, 65535), 1, 100);
    x.weight(0, 999);
    boundIs("15999 of 1599900", x, 0, 1, 100);
  }

  private static void proved() {
    MeetHouse x = house();
    Due.refused(x, "no plan", x.proved(), 1);
    x.even(0);
    Due.is("beside a bound of 0", x.proved(), 1);
    Due.is("accepted", x.status(), 0);
    MeetHouse y = Houses.equal(7);
    y.even(y.plane(2, 0));
    Due.is("no weights", y.proved(), 1);
    for (int k = 0; k < 7; k++) y.weight(k, 2);
    Due.is("3 of 7 are 6 of 14", y.proved(), 0);
    y.part(0, 2);
    Due.is("uneven", y.proved(), 1);
    y.undo();
    Due.is("even", y.proved(), 0);
    y.weight(3, 3);
    Due.is("weights uneven", y.proved(), 1);
    MeetHouse z = Houses.equal(2);
    z.even(Houses.told(z, 1));
    z.weight(0, 1);
    Due.is("1 of 1", z.proved(), 0);
    z.weight(1, 1);
    Due.is("1 of 1 beside 1 of 2", z.proved(), 1);
    MeetHouse w = Houses.ofStrengths(2, 1);
    w.even(Houses.told(w, 1, 2));
    w.weight(0, 1);
    w.weight(1, 1);
    Due.is("1 of 2 beside 1 of 3", w.proved(), 1);
    w.part(0, 2);
    Due.is("1 of 3", w.proved(), 0);
  }

  public static void main(String[] args) {
    even();
    part();
    partOf();
    load();
    loadOf();
    loadOfWideParts();
    widestPlan();
    weight();
    bound();
    boundOfGreatWeights();
    proved();
    Due.end();
  }
}
