/** Promises 43 and 44. */
public final class StatusTest {
  private static MeetHouse house() {
    return Houses.furnished();
  }

  // ---- 43: size

  static void promise43_size_0_keepers() {
    Due.is("none", new MeetHouse().size(0), 0);
    Due.is("seven", house().size(0), 7);
    Due.is("sixteen", Houses.equal(16).size(0), 16);
  }

  static void promise43_size_1_families() {
    Due.is("none", new MeetHouse().size(1), 0);
    Due.is("three", house().size(1), 3);
    Due.is("twenty-four", Houses.full().size(1), 24);
  }

  static void promise43_size_2_sets_of_the_list() {
    Due.is("none", new MeetHouse().size(2), 0);
    MeetHouse x = Houses.equal(2);
    for (int i = 0; i < 121; i++) x.list(3);
    Due.is("120", x.size(2), 120);
    x.told();
    Due.is("none behind told()", x.size(2), 0);
  }

  static void promise43_size_3_acts() {
    Due.is("none", new MeetHouse().size(3), 0);
    MeetHouse x = Houses.equal(1);
    for (int i = 1; i <= 70; i++) {
      x.weight(0, i);
      Due.is("acts", x.size(3), Math.min(60, i + 1));
    }
    x.undo();
    Due.is("59", x.size(3), 59);
  }

  static void promise43_size_4_pairs_of_the_sheet() {
    Due.is("none", new MeetHouse().size(4), 0);
    Due.is("of a plane", house().size(4), 21);
    MeetHouse x = Houses.ofFamilies(16, Houses.pairs(0, 16));
    x.witness(0);
    Due.is("of 120", x.size(4), 7140);
  }

  static void promise43_size_of_others_is_none() {
    MeetHouse x = house();
    for (int w : new int[] {-1, 5, 6, Integer.MIN_VALUE, Integer.MAX_VALUE}) Due.is("size " + w, x.size(w), -1);
  }

  static void promise43_size_leaves_the_status() {
    MeetHouse x = house();
    x.keeper(0, 0);
    x.size(0);
    x.size(5);
    Due.is("of keeper()", x.status(), 2);
  }

  // ---- 44: status

  static void promise44_status_is_0_at_first() {
    Due.is("status", new MeetHouse().status(), 0);
  }

  static void promise44_status_0_to_7() {
    MeetHouse x = Houses.full();
    x.has(0, 1);
    Due.is("0 it wasn't refused", x.status(), 0);
    x.has(24, 1);
    Due.is("1 there is none such", x.status(), 1);
    x.keeper(0, 0);
    Due.is("2 a number", x.status(), 2);
    x.most(7);
    Due.is("4 no room", x.status(), 4);
    x.use(4);
    Due.is("5 no set", x.status(), 5);
    x.use(0);
    Due.is("6 another thing lies there", x.status(), 6);
    x.better(2);
    Due.is("7 two don't meet", x.status(), 7);
    MeetHouse y = Houses.equal(9);
    y.most(511);
    Due.is("3 many", y.status(), 3);
  }

  static void promise44_status_stays_while_it_is_asked() {
    MeetHouse x = house();
    x.keeper(0, 0);
    Due.is("once", x.status(), 2);
    Due.is("again", x.status(), 2);
  }

  static void promise44_status_of_the_latest_call_alone() {
    MeetHouse x = house();
    x.keeper(0, 0);
    x.has(9, 0);
    Due.is("of has()", x.status(), 1);
    x.has(0, 0);
    Due.is("of has() that wasn't refused", x.status(), 0);
  }

  static void promise44_status_is_left_by_calls_that_are_never_refused() {
    MeetHouse x = house();
    x.use(5);
    x.keeperOf(0, 0);
    x.family(0, 0);
    x.quorum(0, 0);
    x.partOf(0);
    x.load(1);
    x.loadOf(0, false);
    x.names(0);
    x.undo();
    x.size(0);
    Due.is("of use()", x.status(), 6);
  }

  static void promise44_status_is_0_behind_each_call_that_was_accepted() {
    MeetHouse x = house();
    Due.accepted(x, "keeper", 7, h -> h.keeper(1, 1));
    Due.acceptedTrue(x, "tenths", h -> h.tenths(0, 1));
    Due.accepted(x, "list", 2, h -> h.list(7));
    Due.accepted(x, "told", 3, MeetHouse::told);
    Due.accepted(x, "most", 4, h -> h.most(7));
    Due.accepted(x, "grid", 5, h -> h.grid(2, 2, 0));
    Due.accepted(x, "wall", 6, h -> h.wall(0, 2, 2, 0, 0, 0));
    Due.accepted(x, "tree", 7, h -> h.tree(2, 0));
    Due.accepted(x, "plane", 8, h -> h.plane(2, 0));
    Due.accepted(x, "join", 9, h -> h.join(0, 0, 1));
    Due.accepted(x, "dual", 10, h -> h.dual(0));
    Due.accepted(x, "thin", 11, h -> h.thin(0, 15));
    Due.accepted(x, "both", 12, h -> h.both(0, 1));
    Due.accepted(x, "better", 13, h -> h.better(0));
    Due.accepted(x, "has", 0, h -> h.has(0, 1));
    Due.accepted(x, "apart", -2, h -> h.apart(0, 0));
    Due.accepted(x, "hit", 5, h -> h.hit(0));
    Due.accepted(x, "falls", 1, h -> h.falls(0));
    Due.accepted(x, "liars", 0, h -> h.liars(0, false));
    Due.accepted(x, "liars, none", -1, h -> h.liars(2, false));
    Due.accepted(x, "chance of 1 and 2", 5500000000000000L, h -> h.chance(2));
    Due.acceptedTrue(x, "even", h -> h.even(0));
    Due.acceptedTrue(x, "part", h -> h.part(0, 3));
    Due.acceptedTrue(x, "weight", h -> h.weight(0, 3));
    Due.accepted(x, "bound", 0, h -> h.bound(2, false));
    Due.accepted(x, "proved", 1, MeetHouse::proved);
    Due.accepted(x, "witness", 6, h -> h.witness(0));
    Due.acceptedTrue(x, "forge", h -> h.forge(0, 1));
    Due.accepted(x, "judge", 0, h -> h.judge(0));
    Due.accepted(x, "judge, not as many", -3, h -> h.judge(1));
    Due.accepted(x, "lay", 1, h -> h.lay(5, 1, 0));
    Due.accepted(x, "lies", 1, h -> h.lies(5));
    Due.accepted(x, "taken", 0, h -> h.taken(5, 1, 0));
    Due.accepted(x, "taken of a plan", 40, h -> h.taken(2, 3, 3));
    Due.accepted(x, "copy", 1, h -> h.copy(2, 0, 2, 1, 1));
    Due.accepted(x, "use", 1, h -> h.use(3));
  }

  /** "An object is used for at most 512 calls after it has been made": up to the last of them all holds. */
  static void promise44_status_behind_call_511() {
    MeetHouse x = Houses.equal(16);
    for (int call = 17; call <= 510; call++) Due.is("call " + call, x.weight(call % 16, call), true);
    Due.is("call 511", x.keeper(1, 1), -1);
    Due.is("call 512", x.status(), 4);
  }

  public static void main(String[] args) {
    Cases.run(StatusTest.class, args);
  }
}
