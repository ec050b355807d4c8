/** Promises 19 to 24. */
public final class MeetingsTest {
  private static final int MIN = Integer.MIN_VALUE;
  private static final int MAX = Integer.MAX_VALUE;
  private static final int[] NO_FAMILY = {-1, 3, 23, 24, MIN, MAX};
  private static final long WHOLE = 10000000000000000L;

  /** Families 0 to 2 are there. */
  private static MeetHouse house() {
    return Houses.furnished();
  }

  // ---- 19: has

  static void promise19_has_a_set_that_is_a_quorum() {
    MeetHouse x = house();
    Due.accepted(x, "the first", 1, h -> h.has(0, 5));
    Due.accepted(x, "the last", 1, h -> h.has(0, 12));
  }

  static void promise19_has_a_set_that_holds_a_quorum() {
    Due.accepted(house(), "13 holds 5", 1, h -> h.has(0, 13));
  }

  static void promise19_has_not_a_set_within_a_quorum() {
    Due.accepted(house(), "3 is within 11", 0, h -> h.has(0, 3));
  }

  static void promise19_has_not_the_empty_set() {
    Due.accepted(house(), "0", 0, h -> h.has(0, 0));
  }

  static void promise19_has_bits_of_no_keepers_are_no_matter() {
    MeetHouse x = house();
    Due.accepted(x, "alone", 0, h -> h.has(0, -128));
    Due.accepted(x, "the highest", 0, h -> h.has(0, MIN));
    Due.accepted(x, "beside a quorum", 1, h -> h.has(0, -128 | 5));
    Due.accepted(x, "the highest beside a quorum", 1, h -> h.has(0, MIN | 5));
    Due.accepted(x, "all bits", 1, h -> h.has(0, -1));
  }

  static void promise19_has_no_such_family_refused_1() {
    for (int f : NO_FAMILY) Due.refused(1, MeetingsTest::house, h -> h.has(f, 127));
    Due.refused(1, Houses::full, h -> h.has(24, 127));
  }

  // ---- 20: apart

  static void promise20_apart_the_first_pair_by_i() {
    MeetHouse x = Houses.ofFamilies(6, Houses.sets(9, 24), Houses.sets(1, 8));
    Due.accepted(x, "24 and 1", 1000, h -> h.apart(0, 1));
    MeetHouse y = Houses.ofFamilies(6, Houses.sets(7, 11, 56), Houses.sets(3, 57));
    Due.accepted(y, "56 and 3", 2000, h -> h.apart(0, 1));
  }

  static void promise20_apart_then_by_j() {
    MeetHouse x = Houses.ofFamilies(6, Houses.sets(3, 5, 24), Houses.sets(4, 35));
    Due.accepted(x, "3 and 4", 0, h -> h.apart(0, 1));
    MeetHouse y = Houses.ofFamilies(6, Houses.sets(3, 12), Houses.sets(2, 4, 8));
    Due.accepted(y, "3 and 4, not 3 and 8", 1, h -> h.apart(0, 1));
    MeetHouse z = Houses.ofFamilies(6, Houses.sets(3, 36), Houses.sets(1, 6, 48));
    Due.accepted(z, "i goes ahead of j: 3 and 48, not 36 and 1", 2, h -> h.apart(0, 1));
  }

  static void promise20_apart_of_one_family_i_is_below_j() {
    MeetHouse x = Houses.ofFamilies(6, Houses.sets(3, 5, 24), Houses.sets(7, 11, 56));
    Due.accepted(x, "3 and 24", 2, h -> h.apart(0, 0));
    Due.accepted(x, "7 and 56", 2, h -> h.apart(1, 1));
    MeetHouse y = Houses.ofFamilies(6, Houses.sets(7, 26, 36));
    Due.accepted(y, "26 and 36", 1002, h -> h.apart(0, 0));
  }

  static void promise20_apart_of_a_family_of_one_is_none() {
    Due.accepted(Houses.ofFamilies(6, Houses.sets(8)), "8", -2, h -> h.apart(0, 0));
  }

  static void promise20_apart_of_another_family_that_is_alike() {
    MeetHouse x = Houses.ofFamilies(6, Houses.sets(1, 8), Houses.sets(1, 8));
    Due.accepted(x, "1 and 8", 1, h -> h.apart(0, 1));
    MeetHouse y = Houses.ofFamilies(6, Houses.sets(3, 5), Houses.sets(3, 5));
    Due.accepted(y, "all meet", -2, h -> h.apart(0, 1));
  }

  static void promise20_apart_is_below_0_if_all_meet() {
    MeetHouse x = house();
    Due.accepted(x, "a majority", -2, h -> h.apart(0, 0));
    Due.accepted(x, "a plane", -2, h -> h.apart(1, 1));
    MeetHouse y = Houses.ofFamilies(6, Houses.sets(9, 24), Houses.sets(8, 17));
    Due.accepted(y, "two families", -2, h -> h.apart(0, 1));
  }

  static void promise20_apart_of_the_last_of_120() {
    MeetHouse x = Houses.equal(16);
    for (int set : Houses.pairs(0, 16)) x.list(set);
    x.told();
    Houses.told(x, 16383);
    Due.accepted(x, "3 and 12", 5, h -> h.apart(0, 0));
    Due.accepted(x, "49152 and 16383", 119000, h -> h.apart(0, 1));
    Due.accepted(x, "16383 and 49152", 119, h -> h.apart(1, 0));
  }

  static void promise20_apart_no_such_first_family_refused_1() {
    for (int f : NO_FAMILY) Due.refused(1, MeetingsTest::house, h -> h.apart(f, 0));
  }

  static void promise20_apart_no_such_other_family_refused_1() {
    for (int g : NO_FAMILY) Due.refused(1, MeetingsTest::house, h -> h.apart(0, g));
    for (int g : NO_FAMILY) Due.refused(1, MeetingsTest::house, h -> h.apart(g, g));
  }

  // ---- 21 and 22: hit and falls

  private static void hitIs(int due, int... sets) {
    MeetHouse x = Houses.ofFamilies(16, sets);
    Due.accepted(x, "hit", due, h -> h.hit(0));
  }

  private static void fallsIs(int due, int... sets) {
    MeetHouse x = Houses.ofFamilies(16, sets);
    Due.accepted(x, "falls", due, h -> h.falls(0));
  }

  static void promise21_hit_of_one_keeper() {
    hitIs(32768, 32768);
    hitIs(1, 1);
  }

  static void promise21_hit_one_keeper_of_all_quorums() {
    hitIs(128, 3 | 128, 12 | 128, 48 | 128);
    hitIs(4, 5, 6);
    hitIs(4 << 9, 5 << 9, 6 << 9);
  }

  static void promise21_hit_of_as_small_ones_the_least_number() {
    hitIs(1, 65535);
    hitIs(3, 3, 5, 6);
    hitIs(5, 3, 12);
    hitIs(6, 6, 10, 12);
    hitIs(11, 11, 22, 44, 49, 69, 88, 98);
  }

  static void promise21_hit_fewer_keepers_go_ahead_of_a_less_number() {
    hitIs(12, 7, 25, 42, 52);
    hitIs(32768, 32771, 32780, 32816);
  }

  static void promise21_hit_all_sixteen() {
    hitIs(65535, Houses.ones(0, 16));
  }

  static void promise21_hit_all_but_one() {
    hitIs(32767, Houses.pairs(0, 16));
  }

  static void promise21_hit_of_an_older_family() {
    MeetHouse x = Houses.ofFamilies(16, Houses.sets(3, 12), Houses.sets(1, 16, 32768));
    Due.accepted(x, "hit", 5, h -> h.hit(0));
    Due.accepted(x, "hit again", 5, h -> h.hit(0));
  }

  static void promise21_hit_no_such_family_refused_1() {
    for (int f : NO_FAMILY) Due.refused(1, MeetingsTest::house, h -> h.hit(f));
    Due.refused(1, Houses::full, h -> h.hit(24));
  }

  static void promise22_falls_0_if_one_keeper_is_in_all() {
    fallsIs(0, 32768);
    fallsIs(0, 5, 6);
    fallsIs(0, 65535);
  }

  static void promise22_falls_one_less_than_hit_has() {
    fallsIs(1, 3, 5, 6);
    fallsIs(2, 11, 22, 44, 49, 69, 88, 98);
    fallsIs(1, 7, 25, 42, 52);
  }

  static void promise22_falls_15_of_sixteen() {
    fallsIs(15, Houses.ones(0, 16));
    fallsIs(14, Houses.pairs(0, 16));
  }

  static void promise22_falls_of_an_older_family() {
    MeetHouse x = Houses.ofFamilies(16, Houses.sets(3, 12), Houses.sets(1, 16, 32768));
    Due.accepted(x, "falls", 1, h -> h.falls(0));
  }

  static void promise22_falls_no_such_family_refused_1() {
    for (int f : NO_FAMILY) Due.refused(1, MeetingsTest::house, h -> h.falls(f));
    Due.refused(1, Houses::full, h -> h.falls(24));
  }

  // ---- 23: liars

  /** Three QUORUMS that share the first keepers alone. */
  private static MeetHouse sharing(int shared) {
    int common = (1 << shared) - 1;
    return Houses.ofFamilies(16, Houses.sets(common | 256, common | 512, common | 3072));
  }

  static void promise23_liars_shared_above_f() {
    for (int shared = 1; shared <= 8; shared++) {
      Due.accepted(sharing(shared), "shared " + shared, shared - 1, h -> h.liars(0, false));
    }
  }

  static void promise23_liars_twice_shared_above_2_f() {
    int[] due = {-1, 0, 0, 1, 1, 2, 2, 3, 3};
    for (int shared = 1; shared <= 8; shared++) {
      Due.accepted(sharing(shared), "shared " + shared, due[shared], h -> h.liars(0, true));
    }
  }

  static void promise23_liars_none_if_shared_is_0() {
    Due.accepted(sharing(0), "liars", -1, h -> h.liars(0, false));
    Due.accepted(sharing(0), "liars twice", -1, h -> h.liars(0, true));
    Due.accepted(house(), "QUORUMS 1 and 2", -1, h -> h.liars(2, false));
  }

  static void promise23_liars_of_a_family_of_one_how_many_it_has() {
    MeetHouse x = Houses.ofFamilies(16, Houses.sets(31), Houses.sets(65535), Houses.sets(4));
    Due.accepted(x, "of five", 4, h -> h.liars(0, false));
    Due.accepted(x, "of five, twice", 2, h -> h.liars(0, true));
    Due.accepted(x, "of sixteen", 15, h -> h.liars(1, false));
    Due.accepted(x, "of sixteen, twice", 7, h -> h.liars(1, true));
    Due.accepted(x, "of one", 0, h -> h.liars(2, false));
    Due.accepted(x, "of one, twice", 0, h -> h.liars(2, true));
  }

  static void promise23_liars_the_fewest_that_two_share() {
    MeetHouse x = Houses.ofFamilies(16, Houses.sets(15, 23, 57), Houses.sets(15, 113, 179), Houses.sets(7, 27, 101));
    Due.accepted(x, "15 and 57 share two", 1, h -> h.liars(0, false));
    Due.accepted(x, "15 and 113 share one", 0, h -> h.liars(1, false));
    Due.accepted(x, "27 and 101 share one", 0, h -> h.liars(2, false));
  }

  static void promise23_liars_no_such_family_refused_1() {
    for (int f : NO_FAMILY) Due.refused(1, MeetingsTest::house, h -> h.liars(f, false));
    for (int f : NO_FAMILY) Due.refused(1, MeetingsTest::house, h -> h.liars(f, true));
  }

  // ---- 24: chance

  /** Keepers that are there by 7, 5, 9, 0 and 10 tenths. */
  private static void chanceIs(long due, int... sets) {
    MeetHouse x = Houses.ofTenths(7, 5, 9, 0, 10);
    Houses.told(x, sets);
    Due.accepted(x, "chance", due, h -> h.chance(0));
  }

  static void promise24_chance_of_one_keeper() {
    chanceIs(7000000000000000L, 1);
  }

  static void promise24_chance_of_one_that_is_never_there() {
    chanceIs(0L, 8);
    chanceIs(0L, 9, 10, 28);
  }

  static void promise24_chance_of_one_that_is_always_there() {
    chanceIs(WHOLE, 16);
    chanceIs(WHOLE, 3, 16);
  }

  static void promise24_chance_of_two_that_must_be_there() {
    chanceIs(4500000000000000L, 6);
  }

  static void promise24_chance_of_either_of_two() {
    chanceIs(9500000000000000L, 2, 4);
  }

  static void promise24_chance_of_most_of_three() {
    chanceIs(8000000000000000L, 3, 5, 6);
  }

  static void promise24_chance_by_the_tenths_of_now() {
    MeetHouse x = Houses.ofTenths(7, 5);
    Houses.told(x, 1);
    x.tenths(0, 2);
    Due.accepted(x, "by 2", 2000000000000000L, h -> h.chance(0));
    x.undo();
    Due.accepted(x, "by 7", 7000000000000000L, h -> h.chance(0));
  }

  static void promise24_chance_keepers_of_no_quorum_are_no_matter() {
    for (int keepers = 1; keepers <= 16; keepers++) {
      MeetHouse x = Houses.ofTenths(3);
      Houses.told(x, 1);
      for (int k = 1; k < keepers; k++) x.keeper(1, k % 11);
      Due.accepted(x, "of " + keepers, 3000000000000000L, h -> h.chance(0));
    }
  }

  static void promise24_chance_smallest_of_all_sixteen() {
    MeetHouse x = Houses.ofTenths(1, 1, 1, 1, 1, 1, 1, 1, 1, 1, 1, 1, 1, 1, 1, 1);
    Houses.told(x, 65535);
    Due.accepted(x, "1 part", 1L, h -> h.chance(0));
  }

  static void promise24_chance_greatest_below_the_whole() {
    MeetHouse x = Houses.ofTenths(9, 9, 9, 9, 9, 9, 9, 9, 9, 9, 9, 9, 9, 9, 9, 9);
    Houses.told(x, Houses.ones(0, 16));
    Due.accepted(x, "all but 1 part", WHOLE - 1L, h -> h.chance(0));
  }

  static void promise24_chance_of_sixteen_by_3_tenths() {
    MeetHouse x = Houses.ofTenths(3, 3, 3, 3, 3, 3, 3, 3, 3, 3, 3, 3, 3, 3, 3, 3);
    Houses.told(x, 65535);
    Houses.told(x, Houses.ones(0, 16));
    Due.accepted(x, "all", 43046721L, h -> h.chance(0));
    Due.accepted(x, "any", WHOLE - 33232930569601L, h -> h.chance(1));
  }

  static void promise24_chance_of_the_highest_keepers() {
    MeetHouse x = Houses.ofTenths(0, 0, 0, 0, 0, 0, 0, 1, 0, 0, 0, 0, 0, 0, 0, 9);
    Houses.told(x, 32768 | 128, 1);
    Due.accepted(x, "7 and 15", 900000000000000L, h -> h.chance(0));
  }

  static void promise24_chance_of_an_older_family() {
    MeetHouse x = Houses.ofFamilies(16, Houses.sets(3, 12), Houses.sets(1, 16, 32768));
    Due.accepted(x, "chance", 4375000000000000L, h -> h.chance(0));
    Due.accepted(x, "chance again", 4375000000000000L, h -> h.chance(0));
  }

  static void promise24_chance_no_such_family_refused_1() {
    for (int f : NO_FAMILY) Due.refused(1, MeetingsTest::house, h -> h.chance(f));
    Due.refused(1, Houses::full, h -> h.chance(24));
  }

  public static void main(String[] args) {
    Cases.run(MeetingsTest.class, args);
  }
}
