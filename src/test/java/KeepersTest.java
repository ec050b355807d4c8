/** Promises 1 to 4. */
public final class KeepersTest {
  private static final int MIN = Integer.MIN_VALUE;
  private static final int MAX = Integer.MAX_VALUE;

  private static MeetHouse house() {
    return Houses.furnished();
  }

  // ---- 1: a new object

  static void promise01_new_every_size_is_0() {
    MeetHouse x = new MeetHouse();
    for (int w = 0; w < 5; w++) Due.is("size " + w, x.size(w), 0);
  }

  static void promise01_new_status_is_0() {
    Due.is("status", new MeetHouse().status(), 0);
  }

  static void promise01_new_no_keeper_is_there() {
    MeetHouse x = new MeetHouse();
    for (int k = 0; k < 16; k++) for (int w = 0; w < 3; w++) Due.is("keeperOf " + k, x.keeperOf(k, w), -1);
    Due.is("its number is the first", x.keeper(1, 1), 0);
  }

  static void promise01_new_no_family_is_there() {
    MeetHouse x = new MeetHouse();
    for (int f = 0; f < 24; f++) {
      Due.is("family " + f, x.family(f, 1), -1);
      Due.is("quorum of " + f, x.quorum(f, 0), -1);
    }
    Due.refused(1, MeetHouse::new, h -> h.hit(0));
  }

  static void promise01_new_no_plan_is_there() {
    MeetHouse x = new MeetHouse();
    for (int w = 0; w < 4; w++) Due.is("load " + w, x.load(w), -1);
    Due.is("partOf", x.partOf(0), -1);
    Due.refused(1, MeetHouse::new, MeetHouse::proved);
    Due.refused(1, MeetHouse::new, h -> h.lay(0, 3, 0));
  }

  static void promise01_new_no_sheet_is_there() {
    Due.is("names", new MeetHouse().names(0), -2);
    Due.refusedFalse(1, MeetHouse::new, h -> h.forge(0, 1));
  }

  static void promise01_new_the_list_is_empty() {
    Due.refused(5, MeetHouse::new, MeetHouse::told);
  }

  static void promise01_new_nothing_lies_in_the_case() {
    MeetHouse x = new MeetHouse();
    for (int k = 0; k < 16; k++) Due.is("lies " + k, x.lies(k), 0);
  }

  static void promise01_new_no_act_can_be_taken_back() {
    Due.is("undo", new MeetHouse().undo(), 0);
  }

  static void promise01_new_objects_are_apart() {
    MeetHouse x = house();
    String before = Look.at(x);
    Due.is("another has its own first keeper", new MeetHouse().keeper(9, 9), 0);
    new MeetHouse().undo();
    Due.is("the one is as it was", before.equals(Look.at(x)), true);
  }

  static void promise01_new_none_is_below_0() {
    Due.is("NONE", MeetHouse.NONE, -1);
  }

  // ---- 2: keeper

  static void promise02_keeper_numbers_go_up_from_0_to_15() {
    MeetHouse x = new MeetHouse();
    for (int k = 0; k < 16; k++) {
      int strength = 10 + k;
      Due.accepted(x, "keeper " + k, k, h -> h.keeper(strength, 3));
      Due.is("how many", x.size(0), k + 1);
    }
    for (int k = 0; k < 16; k++) Due.is("strength of " + k, x.keeperOf(k, 0), 10 + k);
  }

  static void promise02_keeper_least_strength_1_is_taken() {
    MeetHouse x = new MeetHouse();
    Due.accepted(x, "keeper(1, 5)", 0, h -> h.keeper(1, 5));
    Due.is("strength", x.keeperOf(0, 0), 1);
  }

  static void promise02_keeper_greatest_strength_100_is_taken() {
    MeetHouse x = new MeetHouse();
    Due.accepted(x, "keeper(100, 5)", 0, h -> h.keeper(100, 5));
    Due.is("strength", x.keeperOf(0, 0), 100);
  }

  static void promise02_keeper_least_tenths_0_are_taken() {
    MeetHouse x = new MeetHouse();
    Due.accepted(x, "keeper(5, 0)", 0, h -> h.keeper(5, 0));
    Due.is("tenths", x.keeperOf(0, 1), 0);
  }

  static void promise02_keeper_greatest_tenths_10_are_taken() {
    MeetHouse x = new MeetHouse();
    Due.accepted(x, "keeper(5, 10)", 0, h -> h.keeper(5, 10));
    Due.is("tenths", x.keeperOf(0, 1), 10);
  }

  static void promise02_keeper_weight_is_0_at_first() {
    Due.is("weight", Houses.equal(1).keeperOf(0, 2), 0);
  }

  static void promise02_keeper_strength_too_small_refused_2() {
    for (int s : new int[] {0, -1, MIN}) Due.refused(2, KeepersTest::house, h -> h.keeper(s, 5));
  }

  static void promise02_keeper_strength_too_large_refused_2() {
    for (int s : new int[] {101, 102, MAX}) Due.refused(2, KeepersTest::house, h -> h.keeper(s, 5));
  }

  static void promise02_keeper_tenths_too_small_refused_2() {
    for (int t : new int[] {-1, MIN}) Due.refused(2, KeepersTest::house, h -> h.keeper(5, t));
  }

  static void promise02_keeper_tenths_too_large_refused_2() {
    for (int t : new int[] {11, MAX}) Due.refused(2, KeepersTest::house, h -> h.keeper(5, t));
  }

  static void promise02_keeper_seventeenth_refused_4() {
    Due.refused(4, () -> Houses.equal(16), h -> h.keeper(1, 1));
  }

  static void promise02_keeper_a_number_goes_ahead_of_no_room_refused_2() {
    Due.refused(2, () -> Houses.equal(16), h -> h.keeper(0, 1));
    Due.refused(2, () -> Houses.equal(16), h -> h.keeper(1, 11));
  }

  static void promise02_keeper_there_is_room_again_behind_undo() {
    MeetHouse x = Houses.equal(16);
    x.keeper(1, 1);
    x.undo();
    Due.accepted(x, "the sixteenth again", 15, h -> h.keeper(7, 1));
    Due.is("its strength", x.keeperOf(15, 0), 7);
  }

  // ---- 3: tenths

  static void promise03_tenths_become_the_least_0() {
    MeetHouse x = house();
    Due.acceptedTrue(x, "tenths(1, 0)", h -> h.tenths(1, 0));
    Due.is("became", x.keeperOf(1, 1), 0);
  }

  static void promise03_tenths_become_the_greatest_10() {
    MeetHouse x = house();
    Due.acceptedTrue(x, "tenths(6, 10)", h -> h.tenths(6, 10));
    Due.is("became", x.keeperOf(6, 1), 10);
  }

  static void promise03_tenths_of_no_other_keeper_change() {
    MeetHouse x = house();
    x.tenths(3, 8);
    for (int k = 0; k < 7; k++) Due.is("tenths of " + k, x.keeperOf(k, 1), k == 3 ? 8 : 5);
    Due.is("its strength stays", x.keeperOf(3, 0), 1);
  }

  static void promise03_tenths_no_such_keeper_refused_1() {
    for (int k : new int[] {-1, 7, 16, MIN, MAX}) Due.refusedFalse(1, KeepersTest::house, h -> h.tenths(k, 5));
    Due.refusedFalse(1, MeetHouse::new, h -> h.tenths(0, 5));
    Due.refusedFalse(1, () -> Houses.equal(16), h -> h.tenths(16, 5));
  }

  static void promise03_tenths_too_small_refused_2() {
    for (int t : new int[] {-1, MIN}) Due.refusedFalse(2, KeepersTest::house, h -> h.tenths(1, t));
  }

  static void promise03_tenths_too_large_refused_2() {
    for (int t : new int[] {11, MAX}) Due.refusedFalse(2, KeepersTest::house, h -> h.tenths(1, t));
  }

  static void promise03_tenths_no_such_keeper_goes_ahead_of_a_number_refused_1() {
    Due.refusedFalse(1, KeepersTest::house, h -> h.tenths(7, 11));
  }

  // ---- 4: keeperOf

  static void promise04_keeperOf_what_0_to_2() {
    MeetHouse x = new MeetHouse();
    x.keeper(7, 3);
    x.weight(0, 99);
    Due.is("strength", x.keeperOf(0, 0), 7);
    Due.is("tenths", x.keeperOf(0, 1), 3);
    Due.is("weight", x.keeperOf(0, 2), 99);
  }

  static void promise04_keeperOf_last_of_sixteen() {
    MeetHouse x = Houses.equal(15);
    x.keeper(44, 2);
    Due.is("strength", x.keeperOf(15, 0), 44);
    Due.is("behind the last", x.keeperOf(16, 0), -1);
  }

  static void promise04_keeperOf_no_such_what_is_none() {
    MeetHouse x = house();
    for (int w : new int[] {-1, 3, MIN, MAX}) Due.is("what " + w, x.keeperOf(0, w), -1);
  }

  static void promise04_keeperOf_no_such_keeper_is_none() {
    MeetHouse x = house();
    for (int k : new int[] {-1, 7, 15, 16, MIN, MAX}) for (int w = 0; w < 3; w++) Due.is("keeper " + k, x.keeperOf(k, w), -1);
  }

  static void promise04_keeperOf_leaves_the_status() {
    MeetHouse x = house();
    x.keeper(0, 0);
    x.keeperOf(0, 0);
    x.keeperOf(99, 0);
    Due.is("of keeper()", x.status(), 2);
  }

  public static void main(String[] args) {
    Cases.run(KeepersTest.class, args);
  }
}
