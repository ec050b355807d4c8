/** Promises 1 to 4. */
public final class KeepersTest {
  private static void newObject() {
    MeetHouse x = new MeetHouse();
    Due.is("status", x.status(), 0);
    for (int w = 0; w < 5; w++) Due.is("size " + w, x.size(w), 0);
    Due.is("undo", x.undo(), 0);
    Due.is("keeperOf", x.keeperOf(0, 0), -1);
    Due.is("family", x.family(0, 1), -1);
    Due.is("quorum", x.quorum(0, 0), -1);
    Due.is("partOf", x.partOf(0), -1);
    for (int w = 0; w < 4; w++) Due.is("load " + w, x.load(w), -1);
    Due.is("loadOf", x.loadOf(0, true), -1);
    Due.is("names", x.names(0), -2);
    Due.is("none of these may be refused", x.status(), 0);
    for (int k = 0; k < 16; k++) Due.is("lies " + k, x.lies(k), 0);
    Due.refused(x, "told", x.told(), 5);
    Due.refused(x, "proved", x.proved(), 1);
    Due.refused(x, "hit", x.hit(0), 1);
    Due.refused(x, "a plan", x.lay(0, 3, 0), 1);
    Due.is("objects are apart", new MeetHouse().keeper(1, 1), 0);
    Due.is("objects are apart: size", x.size(0), 0);
  }

  private static void keeper() {
    MeetHouse x = new MeetHouse();
    int[][] wrong = {{0, 5}, {-1, 5}, {101, 5}, {5, -1}, {5, 11}, {Integer.MIN_VALUE, 5}, {5, Integer.MAX_VALUE}};
    for (int[] w : wrong) Due.refused(x, "keeper " + w[0] + " " + w[1], x.keeper(w[0], w[1]), 2);
    Due.is("none came", x.size(0), 0);
    Due.is("no act", x.size(3), 0);
    Due.is("least", x.keeper(1, 0), 0);
    Due.is("accepted", x.status(), 0);
    Due.is("greatest", x.keeper(100, 10), 1);
    for (int i = 2; i < 16; i++) Due.is("keeper " + i, x.keeper(i, i % 11), i);
    Due.refused(x, "a seventeenth", x.keeper(1, 1), 4);
    Due.refused(x, "a number ahead of no room", x.keeper(0, 1), 2);
    Due.is("size", x.size(0), 16);
    Due.is("the last's strength", x.keeperOf(15, 0), 15);
  }

  private static void tenths() {
    MeetHouse x = Houses.equal(2);
    Due.is("tenths", x.tenths(1, 0), true);
    Due.is("became", x.keeperOf(1, 1), 0);
    Due.is("the other's stay", x.keeperOf(0, 1), 5);
    Due.is("greatest", x.tenths(1, 10), true);
    Due.is("accepted", x.status(), 0);
    Due.is("became 10", x.keeperOf(1, 1), 10);
    Due.refused(x, "no such keeper", x.tenths(2, 5), 1);
    Due.refused(x, "below the first", x.tenths(-1, 5), 1);
    Due.refused(x, "none such ahead of a number", x.tenths(2, 11), 1);
    Due.refused(x, "11", x.tenths(1, 11), 2);
    Due.refused(x, "-1", x.tenths(1, -1), 2);
    Due.is("stays", x.keeperOf(1, 1), 10);
  }

  private static void keeperOf() {
    MeetHouse x = new MeetHouse();
    x.keeper(7, 3);
    x.weight(0, 99);
    Due.is("strength", x.keeperOf(0, 0), 7);
    Due.is("tenths", x.keeperOf(0, 1), 3);
    Due.is("weight", x.keeperOf(0, 2), 99);
    x.keeper(0, 0);
    Due.is("what 3", x.keeperOf(0, 3), -1);
    Due.is("what -1", x.keeperOf(0, -1), -1);
    Due.is("keeper 1", x.keeperOf(1, 0), -1);
    Due.is("keeper -1", x.keeperOf(-1, 0), -1);
    Due.is("keeper 16", x.keeperOf(16, 0), -1);
    Due.is("the status is of keeper()", x.status(), 2);
  }

  public static void main(String[] args) {
    newObject();
    keeper();
    tenths();
    keeperOf();
    Due.end();
  }
}
