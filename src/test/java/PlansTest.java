/** Promises 25 to 32. */
public final class PlansTest {
  private static final int MIN = Integer.MIN_VALUE;
  private static final int MAX = Integer.MAX_VALUE;
  private static final int[] NO_FAMILY = {-1, 3, 23, 24, MIN, MAX};

  /** THE PLAN has parts 10, 20, 30, 40 for QUORUMS 5, 6, 11, 12 of keepers of strengths 1, 2, 3, 1. */
  private static MeetHouse house() {
    return Houses.furnished();
  }

  /** The same family without a PLAN. */
  private static MeetHouse noPlan() {
    MeetHouse x = Houses.ofStrengths(1, 2, 3, 1);
    x.most(15);
    return x;
  }

  private static MeetHouse evenPlan() {
    MeetHouse x = noPlan();
    x.even(0);
    return x;
  }

  /** A PLAN of 120 parts, each 1. */
  private static MeetHouse widest() {
    MeetHouse x = Houses.equal(16);
    x.even(Houses.told(x, Houses.pairs(0, 16)));
    return x;
  }

  private static void loadIs(MeetHouse x, int f, int upper, int lower, int keeper) {
    Due.is("load(0), the family", x.load(0), f);
    Due.is("load(1), the upper", x.load(1), upper);
    Due.is("load(2), the lower", x.load(2), lower);
    Due.is("load(3), the keeper", x.load(3), keeper);
  }

  private static void loadOfIs(MeetHouse x, int keeper, int upper, int lower) {
    Due.is("upper of " + keeper, x.loadOf(keeper, false), upper);
    Due.is("lower of " + keeper, x.loadOf(keeper, true), lower);
  }

  // ---- 25: even

  static void promise25_even_each_part_is_1() {
    MeetHouse x = noPlan();
    Due.acceptedTrue(x, "even(0)", h -> h.even(0));
    for (int i = 0; i < 4; i++) Due.is("part " + i, x.partOf(i), 1);
    Due.is("behind the last", x.partOf(4), -1);
    Due.is("its family", x.load(0), 0);
  }

  static void promise25_even_again_each_part_is_1_again() {
    MeetHouse x = house();
    Due.acceptedTrue(x, "even(0)", h -> h.even(0));
    for (int i = 0; i < 4; i++) Due.is("part " + i, x.partOf(i), 1);
  }

  static void promise25_even_of_a_family_with_fewer_quorums() {
    MeetHouse x = house();
    Due.acceptedTrue(x, "even(2)", h -> h.even(2));
    Due.is("its family", x.load(0), 2);
    Due.is("the last part", x.partOf(1), 1);
    Due.is("behind the last", x.partOf(2), -1);
  }

  static void promise25_even_of_120_quorums() {
    MeetHouse x = widest();
    for (int i = 0; i < 120; i++) Due.is("part " + i, x.partOf(i), 1);
    Due.is("behind the last", x.partOf(120), -1);
  }

  static void promise25_even_no_such_family_refused_1() {
    for (int f : NO_FAMILY) Due.refusedFalse(1, PlansTest::house, h -> h.even(f));
    Due.refusedFalse(1, PlansTest::noPlan, h -> h.even(1));
    Due.refusedFalse(1, Houses::full, h -> h.even(24));
  }

  // ---- 26: part

  static void promise26_part_greatest_1000() {
    MeetHouse x = house();
    Due.acceptedTrue(x, "part(0, 1000)", h -> h.part(0, 1000));
    Due.is("became", x.partOf(0), 1000);
    Due.is("the next stays", x.partOf(1), 20);
  }

  static void promise26_part_least_0() {
    MeetHouse x = house();
    Due.acceptedTrue(x, "part(3, 0)", h -> h.part(3, 0));
    Due.is("became", x.partOf(3), 0);
    Due.is("the one before stays", x.partOf(2), 30);
  }

  static void promise26_part_0_again_while_another_is_not_0() {
    MeetHouse x = house();
    x.part(3, 0);
    Due.acceptedTrue(x, "part(3, 0)", h -> h.part(3, 0));
  }

  static void promise26_part_last_of_120() {
    MeetHouse x = widest();
    Due.acceptedTrue(x, "part(119, 7)", h -> h.part(119, 7));
    Due.is("became", x.partOf(119), 7);
  }

  /** Only the last part isn't 0. */
  private static MeetHouse oneLeft() {
    MeetHouse x = house();
    for (int i = 0; i < 3; i++) x.part(i, 0);
    return x;
  }

  static void promise26_part_of_the_one_that_is_left_may_change() {
    MeetHouse x = oneLeft();
    Due.acceptedTrue(x, "part(3, 1)", h -> h.part(3, 1));
    Due.is("became", x.partOf(3), 1);
  }

  static void promise26_part_no_plan_refused_1() {
    Due.refusedFalse(1, PlansTest::noPlan, h -> h.part(0, 1));
    Due.refusedFalse(1, MeetHouse::new, h -> h.part(0, 1));
  }

  static void promise26_part_no_such_quorum_refused_1() {
    for (int i : new int[] {-1, 4, 119, 120, MIN, MAX}) Due.refusedFalse(1, PlansTest::house, h -> h.part(i, 1));
    Due.refusedFalse(1, PlansTest::widest, h -> h.part(120, 1));
  }

  static void promise26_part_too_small_refused_2() {
    for (int p : new int[] {-1, -100, MIN}) Due.refusedFalse(2, PlansTest::house, h -> h.part(0, p));
  }

  static void promise26_part_too_large_refused_2() {
    for (int p : new int[] {1001, MAX}) Due.refusedFalse(2, PlansTest::house, h -> h.part(0, p));
  }

  static void promise26_part_all_would_be_0_refused_2() {
    Due.refusedFalse(2, PlansTest::oneLeft, h -> h.part(3, 0));
  }

  static void promise26_part_of_a_family_of_one_would_be_0_refused_2() {
    Due.refusedFalse(2, () -> {
      MeetHouse x = Houses.ofFamilies(3, Houses.sets(5));
      x.even(0);
      return x;
    }, h -> h.part(0, 0));
  }

  static void promise26_part_none_such_goes_ahead_of_a_number_refused_1() {
    Due.refusedFalse(1, PlansTest::noPlan, h -> h.part(0, -1));
    Due.refusedFalse(1, PlansTest::house, h -> h.part(4, 1001));
  }

  // ---- 27: partOf

  static void promise27_partOf_first_and_last() {
    MeetHouse x = house();
    Due.is("first", x.partOf(0), 10);
    Due.is("last", x.partOf(3), 40);
  }

  static void promise27_partOf_no_such_quorum_is_none() {
    MeetHouse x = house();
    for (int i : new int[] {-1, 4, 119, 120, MIN, MAX}) Due.is("partOf " + i, x.partOf(i), -1);
  }

  static void promise27_partOf_no_plan_is_none() {
    Due.is("partOf 0", noPlan().partOf(0), -1);
  }

  static void promise27_partOf_leaves_the_status() {
    MeetHouse x = house();
    x.keeper(0, 0);
    x.partOf(0);
    x.partOf(99);
    Due.is("of keeper()", x.status(), 2);
  }

  // ---- 28: load

  static void promise28_load_of_an_even_plan() {
    loadIs(evenPlan(), 0, 1, 2, 0);
  }

  static void promise28_load_of_unlike_parts() {
    loadIs(house(), 0, 7, 10, 3);
  }

  static void promise28_load_in_lowest_terms() {
    MeetHouse x = evenPlan();
    x.part(0, 0);
    x.part(1, 500);
    loadIs(x, 0, 501, 1004, 1);
    x.part(1, 0);
    loadIs(x, 0, 1, 1, 3);
  }

  static void promise28_load_least_keeper_of_those_that_have_it() {
    MeetHouse x = Houses.ofStrengths(2, 1, 2, 1, 1);
    x.even(Houses.told(x, 5, 10));
    loadIs(x, 0, 1, 2, 1);
  }

  static void promise28_load_by_strengths_of_100() {
    MeetHouse x = Houses.ofStrengths(100, 100);
    x.even(Houses.told(x, 2));
    loadIs(x, 0, 1, 100, 1);
  }

  static void promise28_load_greatest_is_1() {
    MeetHouse x = Houses.equal(16);
    x.even(Houses.told(x, 32768));
    x.part(0, 1000);
    loadIs(x, 0, 1, 1, 15);
  }

  static void promise28_load_of_one_part_of_1_is_1() {
    MeetHouse x = Houses.equal(2);
    x.even(Houses.told(x, 2));
    loadIs(x, 0, 1, 1, 1);
  }

  static void promise28_load_of_120_parts() {
    MeetHouse x = widest();
    loadIs(x, 0, 1, 8, 0);
    x.part(119, 1000);
    loadIs(x, 0, 338, 373, 14);
  }

  static void promise28_load_of_parts_of_1000() {
    MeetHouse x = Houses.equal(16);
    for (int set : Houses.pairs(1, 15)) x.list(set | 1);
    x.even(x.told());
    for (int i = 0; i < 105; i++) x.part(i, 1000);
    loadIs(x, 0, 1, 1, 0);
    loadOfIs(x, 15, 2, 15);
    x.part(0, 999);
    loadOfIs(x, 15, 14000, 104999);
  }

  static void promise28_load_of_unlike_strengths_and_great_parts() {
    MeetHouse x = Houses.ofStrengths(99, 100);
    x.even(Houses.told(x, 1, 2));
    x.part(0, 990);
    x.part(1, 1000);
    loadIs(x, 0, 1, 199, 0);
    x.part(1, 999);
    loadIs(x, 0, 10, 1989, 0);
    x.part(0, 989);
    loadIs(x, 0, 999, 198800, 1);
  }

  static void promise28_load_no_such_what_is_none() {
    MeetHouse x = house();
    for (int w : new int[] {-1, 4, MIN, MAX}) Due.is("what " + w, x.load(w), -1);
  }

  static void promise28_load_no_plan_is_none() {
    MeetHouse x = noPlan();
    for (int w = -1; w < 5; w++) Due.is("what " + w, x.load(w), -1);
  }

  static void promise28_load_leaves_the_status() {
    MeetHouse x = house();
    x.keeper(0, 0);
    for (int w = -1; w < 5; w++) x.load(w);
    Due.is("of keeper()", x.status(), 2);
    MeetHouse y = noPlan();
    y.load(0);
    Due.is("accepted before", y.status(), 0);
  }

  static void promise28_load_each_what_by_itself() {
    MeetHouse x = evenPlan();
    x.bound(0, false);
    Due.is("the lower one first", x.load(2), 2);
    x.bound(0, false);
    Due.is("the upper one first", x.load(1), 1);
  }

  // ---- 29: loadOf

  static void promise29_loadOf_each_keeper_by_its_strength() {
    MeetHouse x = evenPlan();
    int[][] due = {{1, 2}, {1, 4}, {1, 4}, {1, 2}};
    for (int k = 0; k < 4; k++) loadOfIs(x, k, due[k][0], due[k][1]);
  }

  static void promise29_loadOf_a_keeper_of_no_quorum_is_0_by_1() {
    loadOfIs(house(), 6, 0, 1);
  }

  static void promise29_loadOf_is_0_by_1_behind_another_load() {
    MeetHouse x = house();
    loadOfIs(x, 3, 7, 10);
    Due.is("upper", x.loadOf(6, false), 0);
    loadOfIs(x, 3, 7, 10);
    Due.is("lower", x.loadOf(6, true), 1);
  }

  static void promise29_loadOf_a_keeper_of_parts_of_0_is_0_by_1() {
    MeetHouse x = house();
    x.part(0, 0);
    x.part(2, 0);
    loadOfIs(x, 0, 0, 1);
  }

  static void promise29_loadOf_a_keeper_that_came_later_is_0_by_1() {
    MeetHouse x = evenPlan();
    x.keeper(9, 9);
    loadOfIs(x, 4, 0, 1);
  }

  static void promise29_loadOf_last_of_sixteen() {
    loadOfIs(widest(), 15, 1, 8);
  }

  static void promise29_loadOf_no_such_keeper_is_none() {
    MeetHouse x = house();
    for (int k : new int[] {-1, 7, 15, 16, MIN, MAX}) loadOfIs(x, k, -1, -1);
    loadOfIs(widest(), 16, -1, -1);
  }

  static void promise29_loadOf_no_plan_is_none() {
    loadOfIs(noPlan(), 0, -1, -1);
  }

  static void promise29_loadOf_leaves_the_status() {
    MeetHouse x = house();
    x.keeper(0, 0);
    x.loadOf(0, false);
    x.loadOf(99, true);
    Due.is("of keeper()", x.status(), 2);
  }

  // ---- 30: weight

  static void promise30_weight_is_0_at_first() {
    MeetHouse x = Houses.equal(16);
    for (int k = 0; k < 16; k++) Due.is("weight of " + k, x.keeperOf(k, 2), 0);
  }

  static void promise30_weight_greatest_1000() {
    MeetHouse x = house();
    Due.acceptedTrue(x, "weight(1, 1000)", h -> h.weight(1, 1000));
    Due.is("became", x.keeperOf(1, 2), 1000);
    Due.is("the next stays", x.keeperOf(2, 2), 8);
  }

  static void promise30_weight_least_0() {
    MeetHouse x = house();
    Due.acceptedTrue(x, "weight(2, 0)", h -> h.weight(2, 0));
    Due.is("became", x.keeperOf(2, 2), 0);
  }

  static void promise30_weight_no_such_keeper_refused_1() {
    for (int k : new int[] {-1, 7, 16, MIN, MAX}) Due.refusedFalse(1, PlansTest::house, h -> h.weight(k, 1));
    Due.refusedFalse(1, () -> Houses.equal(16), h -> h.weight(16, 1));
  }

  static void promise30_weight_too_small_refused_2() {
    for (int w : new int[] {-1, MIN}) Due.refusedFalse(2, PlansTest::house, h -> h.weight(2, w));
  }

  static void promise30_weight_too_large_refused_2() {
    for (int w : new int[] {1001, MAX}) Due.refusedFalse(2, PlansTest::house, h -> h.weight(2, w));
  }

  static void promise30_weight_none_such_goes_ahead_of_a_number_refused_1() {
    Due.refusedFalse(1, PlansTest::house, h -> h.weight(7, 1001));
  }

  // ---- 31: bound

  private static void boundIs(MeetHouse x, int f, int upper, int lower) {
    Due.accepted(x, "upper of " + f, upper, h -> h.bound(f, false));
    Due.accepted(x, "lower of " + f, lower, h -> h.bound(f, true));
  }

  static void promise31_bound_all_weights_0_is_0_by_1() {
    boundIs(noPlan(), 0, 0, 1);
  }

  static void promise31_bound_a_quorum_without_weight_is_0_by_1() {
    MeetHouse x = noPlan();
    x.weight(0, 1);
    boundIs(x, 0, 0, 1);
  }

  static void promise31_bound_is_0_by_1_behind_another_bound() {
    MeetHouse x = noPlan();
    for (int k = 0; k < 4; k++) x.weight(k, 1);
    boundIs(x, 0, 2, 7);
    for (int k = 0; k < 4; k++) x.weight(k, 0);
    Due.is("upper", x.bound(0, false), 0);
    x.even(0);
    x.load(2);
    Due.is("lower", x.bound(0, true), 1);
  }

  static void promise31_bound_least_sum_by_weights_times_strengths() {
    MeetHouse x = noPlan();
    int[] weights = {1, 2, 3, 1};
    for (int k = 0; k < 4; k++) x.weight(k, weights[k]);
    boundIs(x, 0, 4, 15);
  }

  static void promise31_bound_in_lowest_terms() {
    MeetHouse x = noPlan();
    for (int k = 0; k < 4; k++) x.weight(k, 6);
    boundIs(x, 0, 2, 7);
  }

  static void promise31_bound_least_of_the_first_and_of_the_last_quorum() {
    MeetHouse x = Houses.ofFamilies(3, Houses.sets(1, 2, 4));
    int[][] weights = {{1, 2, 2}, {2, 1, 2}, {2, 2, 1}};
    for (int[] w : weights) {
      for (int k = 0; k < 3; k++) x.weight(k, w[k]);
      boundIs(x, 0, 1, 5);
    }
  }

  static void promise31_bound_weights_of_keepers_of_no_quorum_count_below() {
    MeetHouse x = noPlan();
    for (int k = 0; k < 4; k++) x.weight(k, 1);
    x.keeper(100, 0);
    x.weight(4, 1000);
    boundIs(x, 0, 2, 100007);
    Houses.told(x, 16);
    boundIs(x, 1, 1000, 100007);
  }

  static void promise31_bound_of_the_greatest_weights_and_strengths() {
    MeetHouse x = new MeetHouse();
    for (int k = 0; k < 16; k++) x.keeper(100, 5);
    for (int k = 0; k < 16; k++) x.weight(k, 1000);
    Houses.told(x, 65535);
    Houses.told(x, 1, 65534);
    boundIs(x, 0, 1, 100);
    boundIs(x, 1, 1, 1600);
    x.weight(0, 999);
    boundIs(x, 1, 333, 533300);
  }

  static void promise31_bound_no_such_family_refused_1() {
    for (int f : NO_FAMILY) Due.refused(1, PlansTest::house, h -> h.bound(f, false));
    for (int f : NO_FAMILY) Due.refused(1, PlansTest::house, h -> h.bound(f, true));
  }

  // ---- 32: proved

  /** A plane's even PLAN with even weights: 3 by 7 and 6 by 14. */
  private static MeetHouse plane() {
    MeetHouse x = Houses.equal(7);
    x.even(x.plane(2, 0));
    for (int k = 0; k < 7; k++) x.weight(k, 2);
    return x;
  }

  static void promise32_proved_they_are_one() {
    Due.accepted(plane(), "3 by 7 beside 6 by 14", 0, MeetHouse::proved);
  }

  static void promise32_proved_not_by_a_bound_of_0() {
    Due.accepted(evenPlan(), "1 by 2 beside 0 by 1", 1, MeetHouse::proved);
  }

  static void promise32_proved_not_by_uneven_parts() {
    MeetHouse x = plane();
    x.part(0, 2);
    Due.accepted(x, "4 by 8 beside 3 by 7", 1, MeetHouse::proved);
    x.undo();
    Due.accepted(x, "even again", 0, MeetHouse::proved);
  }

  static void promise32_proved_not_by_uneven_weights() {
    MeetHouse x = plane();
    x.weight(3, 3);
    Due.accepted(x, "3 by 7 beside 6 by 15", 1, MeetHouse::proved);
  }

  static void promise32_proved_same_upper_number_is_not_enough() {
    MeetHouse x = Houses.equal(2);
    x.even(Houses.told(x, 1));
    x.weight(0, 1);
    Due.accepted(x, "1 by 1 beside 1 by 1", 0, MeetHouse::proved);
    x.weight(1, 1);
    Due.accepted(x, "1 by 1 beside 1 by 2", 1, MeetHouse::proved);
  }

  static void promise32_proved_same_lower_number_is_not_enough() {
    MeetHouse x = Houses.ofStrengths(1, 1, 1);
    x.even(Houses.told(x, 3, 5, 6));
    Due.is("load", x.load(1) * 10 + x.load(2), 23);
    x.weight(0, 1);
    x.weight(1, 1);
    x.weight(2, 1);
    Due.accepted(x, "2 by 3 beside 2 by 3", 0, MeetHouse::proved);
    x.weight(1, 2);
    x.weight(2, 3);
    Due.accepted(x, "2 by 3 beside 1 by 2", 1, MeetHouse::proved);
    x.part(0, 0);
    x.weight(1, 1);
    x.weight(2, 1);
    Due.accepted(x, "1 by 1 beside 2 by 3", 1, MeetHouse::proved);
    MeetHouse y = Houses.ofFamilies(3, Houses.sets(1, 2, 4));
    y.even(0);
    y.part(0, 2);
    y.part(2, 0);
    for (int k = 0; k < 3; k++) y.weight(k, 1);
    Due.accepted(y, "2 by 3 beside 1 by 3", 1, MeetHouse::proved);
  }

  static void promise32_proved_by_unlike_strengths() {
    MeetHouse x = Houses.ofStrengths(2, 1);
    x.even(Houses.told(x, 1, 2));
    x.weight(0, 1);
    x.weight(1, 1);
    Due.accepted(x, "1 by 2 beside 1 by 3", 1, MeetHouse::proved);
    x.part(0, 2);
    Due.accepted(x, "1 by 3 beside 1 by 3", 0, MeetHouse::proved);
  }

  static void promise32_proved_no_plan_refused_1() {
    Due.refused(1, PlansTest::noPlan, MeetHouse::proved);
  }

  public static void main(String[] args) {
    Cases.run(PlansTest.class, args);
  }
}
