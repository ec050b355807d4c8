/** Promises 19 to 24. */
public final class MeetingsTest {
  private static final int[] NO_FAMILY = {-1, 9, 24, Integer.MAX_VALUE, Integer.MIN_VALUE};

  private static void has() {
    MeetHouse x = Houses.equal(4);
    int f = Houses.told(x, 3, 12);
    Due.is("one", x.has(f, 3), 1);
    Due.is("the other", x.has(f, 13), 1);
    Due.is("accepted", x.status(), 0);
    Due.is("none", x.has(f, 5), 0);
    Due.is("empty", x.has(f, 0), 0);
    Due.is("bits of no keepers", x.has(f, -16), 0);
    Due.is("bits of no keepers beside a quorum", x.has(f, -16 | 3), 1);
    Due.is("all bits", x.has(f, -1), 1);
    for (int g : NO_FAMILY) Due.refused(x, "has " + g, x.has(g, 3), 1);
  }

  private static void apart() {
    MeetHouse x = Houses.equal(6);
    int f = Houses.told(x, 3, 5, 24);
    int g = Houses.told(x, 4, 35);
    Due.is("3 and 4", x.apart(f, g), 0);
    Due.is("4 and 3", x.apart(g, f), 0);
    Due.is("itself: 3 and 24", x.apart(f, f), 2);
    int h = Houses.told(x, 1, 8);
    Due.is("24 and 1", x.apart(Houses.told(x, 9, 24), h), 1000);
    Due.is("9 and 16", x.apart(Houses.told(x, 9, 24), Houses.told(x, 8, 17)), -2);
    Due.is("itself: i below j", x.apart(h, h), 1);
    int same = Houses.told(x, 1, 8);
    Due.is("another that is alike: 1 and 8", x.apart(h, same), 1);
    int one = Houses.told(x, 1);
    Due.is("of one", x.apart(one, one), -2);
    Due.is("accepted", x.status(), 0);
    Due.is("a majority", x.apart(x.most(31), x.size(1) - 1), -2);
    int late = Houses.told(x, 7, 11, 56);
    Due.is("the last of the first one", x.apart(late, Houses.told(x, 3, 57)), 2000);
    for (int n : NO_FAMILY) {
      int none = n == 9 ? x.size(1) : n;
      Due.refused(x, "apart " + none + " 0", x.apart(none, 0), 1);
      Due.refused(x, "apart 0 " + none, x.apart(0, none), 1);
    }
  }

  private static void hitAndFalls() {
    MeetHouse x = Houses.equal(16);
    hit(x, Houses.told(x, 3, 5, 6), 3);
    hit(x, Houses.told(x, 3, 12), 5);
    hit(x, Houses.told(x, 32768), 32768);
    hit(x, Houses.told(x, 6, 10, 12), 6);
    hit(x, Houses.told(x, 1, 32768), 32769);
    hit(x, Houses.told(x, 7, 25, 42, 52), 12);
    hit(x, Houses.told(x, 3 | 128, 12 | 128, 48 | 128), 128);
    hit(x, x.plane(2, 0), 11);
    hit(x, Houses.told(x, 5, 6), 4);
    hit(x, Houses.told(x, 5 << 9, 6 << 9), 4 << 9);
    for (int i = 0; i < 16; i++) x.list(1 << i);
    hit(x, x.told(), 65535);
    for (int n : NO_FAMILY) {
      int none = n == 9 ? x.size(1) : n;
      Due.refused(x, "hit " + none, x.hit(none), 1);
      Due.refused(x, "falls " + none, x.falls(none), 1);
    }
  }

  /** A smaller family stands where a greater one was taken back. */
  private static void behindUndo() {
    MeetHouse x = Houses.equal(5);
    Houses.told(x, 1, 2, 4, 8, 16);
    x.undo();
    int f = Houses.told(x, 24);
    Due.is("all keepers", x.family(f, 2), 24);
    Due.is("fewest", x.family(f, 3), 2);
    Due.is("has", x.has(f, 7), 0);
    Due.is("hit", x.hit(f), 8);
    Due.is("liars", x.liars(f, false), 1);
    Due.is("chance", x.chance(f), 2500000000000000L);
    Due.is("apart", x.apart(f, f), -2);
    x.undo();
    f = Houses.told(x, 24, 20);
    Due.is("shared", x.liars(f, false), 0);
    Due.is("fewest of two", x.family(f, 3), 2);
    Due.is("witness", x.witness(f), 1);
    Due.is("judge", x.judge(f), -2);
  }

  private static void hit(MeetHouse x, int f, int set) {
    x.keeper(0, 0);
    Due.is("hit " + set, x.hit(f), set);
    Due.is("accepted", x.status(), 0);
    x.keeper(0, 0);
    Due.is("falls of " + set, x.falls(f), Integer.bitCount(set) - 1);
    Due.is("accepted", x.status(), 0);
  }

  private static void liars() {
    MeetHouse x = Houses.equal(16);
    int[][] byShared = {{0, -1, -1}, {1, 0, 0}, {2, 1, 0}, {3, 2, 1}, {4, 3, 1}, {5, 4, 2}, {6, 5, 2}, {7, 6, 3}};
    for (int[] s : byShared) {
      int common = (1 << s[0]) - 1;
      int f = Houses.told(x, common | 128, common | 256, common | 1536 | 128 << 6);
      Due.is("shared " + s[0], x.liars(f, false), s[1]);
      Due.is("twice, shared " + s[0], x.liars(f, true), s[2]);
      Due.is("accepted", x.status(), 0);
    }
    Due.is("neighbours share the fewest", x.liars(Houses.told(x, 15, 113, 179), false), 0);
    Due.is("the last two share the fewest", x.liars(Houses.told(x, 7, 11 | 16, 37 | 64), false), 0);
    int one = Houses.told(x, 31);
    Due.is("of one: how many it has", x.liars(one, false), 4);
    Due.is("twice of one", x.liars(one, true), 2);
    int uneven = Houses.told(x, 15, 23, 57);
    Due.is("the fewest that two share", x.liars(uneven, false), 1);
    for (int n : NO_FAMILY) {
      int none = n == 9 ? x.size(1) : n;
      Due.refused(x, "liars " + none, x.liars(none, false), 1);
      Due.refused(x, "liars twice " + none, x.liars(none, true), 1);
    }
  }

  private static void chance() {
    MeetHouse x = Houses.ofTenths(7, 5, 9, 0, 10);
    Due.is("one", x.chance(Houses.told(x, 1)), 7000000000000000L);
    Due.is("two", x.chance(Houses.told(x, 6)), 4500000000000000L);
    Due.is("either", x.chance(Houses.told(x, 2, 4)), 9500000000000000L);
    Due.is("never", x.chance(Houses.told(x, 8)), 0L);
    Due.is("always", x.chance(Houses.told(x, 16)), 10000000000000000L);
    Due.is("most of three", x.chance(x.most(7)), 8000000000000000L);
    x.keeper(1, 1);
    Due.is("keepers of no quorum are of no matter", x.chance(0), 7000000000000000L);
    x.tenths(0, 2);
    Due.is("by the tenths of now", x.chance(0), 2000000000000000L);
    Due.is("accepted", x.status(), 0);
    for (int n : NO_FAMILY) Due.refused(x, "chance " + n, x.chance(n), 1);
    MeetHouse y = Houses.ofTenths(3, 3, 3, 3, 3, 3, 3, 3, 3, 3, 3, 3, 3, 3, 3, 3);
    Due.is("all sixteen", y.chance(Houses.told(y, 65535)), 43046721L);
    for (int i = 0; i < 16; i++) y.list(1 << i);
    Due.is("any of sixteen", y.chance(y.told()), 10000000000000000L - 33232930569601L);
    MeetHouse z = Houses.ofTenths(0, 0, 0, 0, 0, 0, 0, 1, 0, 0, 0, 0, 0, 0, 0, 9);
    Due.is("high ones", z.chance(Houses.told(z, 32768 | 128, 1)), 900000000000000L);
  }

  public static void main(String[] args) {
    has();
    apart();
    hitAndFalls();
    behindUndo();
    liars();
    chance();
    Due.end();
  }
}
