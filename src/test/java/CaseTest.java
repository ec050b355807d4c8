/** Promises 37 to 41. */
public final class CaseTest {
  private static final int MIN = Integer.MIN_VALUE;
  private static final int MAX = Integer.MAX_VALUE;
  private static final int[] NO_PLACE = {-1, 16, MIN, MAX};
  private static final int FAMILY_PLACE = 0;
  private static final int SET_PLACE = 1;
  private static final int PLAN_PLACE = 2;
  private static final int SMALL_PLAN_PLACE = 3;
  private static final int ZERO_PLAN_PLACE = 4;
  private static final int EMPTY_PLACE = 5;

  /** In the case lie family 1, the set 9, PLANS of parts 10, 20, 30, 40, of 1, 5 and of 0, 0. */
  private static MeetHouse house() {
    return Houses.furnished();
  }

  private static MeetHouse noPlan() {
    return Houses.ofFamilies(3, Houses.sets(3, 5));
  }

  private static void partsAre(MeetHouse x, int k, int... parts) {
    for (int i = 0; i < parts.length; i++) Due.is("part " + i + " in place " + k, x.taken(k, 3, i), parts[i]);
    Due.is("behind the last in place " + k, x.taken(k, 3, parts.length), -1);
  }

  // ---- 37: lay

  static void promise37_lay_a_family() {
    MeetHouse x = house();
    Due.accepted(x, "the last family", 1, h -> h.lay(EMPTY_PLACE, 1, 2));
    Due.is("lies", x.lies(EMPTY_PLACE), 1);
    Due.is("taken", x.taken(EMPTY_PLACE, 1, 0), 2);
    Due.accepted(x, "the first family", 1, h -> h.lay(EMPTY_PLACE, 1, 0));
    Due.is("taken", x.taken(EMPTY_PLACE, 1, 0), 0);
  }

  static void promise37_lay_a_set() {
    MeetHouse x = house();
    Due.accepted(x, "all keepers", 1, h -> h.lay(EMPTY_PLACE, 2, 127));
    Due.is("lies", x.lies(EMPTY_PLACE), 2);
    Due.is("taken", x.taken(EMPTY_PLACE, 2, 0), 127);
  }

  static void promise37_lay_the_plan_n_is_no_matter() {
    for (int n : new int[] {0, -1, 99, MIN, MAX}) {
      MeetHouse x = house();
      Due.accepted(x, "n is " + n, 1, h -> h.lay(EMPTY_PLACE, 3, n));
      Due.is("lies", x.lies(EMPTY_PLACE), 3);
      partsAre(x, EMPTY_PLACE, 10, 20, 30, 40);
    }
  }

  static void promise37_lay_nothing_n_is_no_matter() {
    for (int n : new int[] {0, -1, 99, MIN, MAX}) {
      MeetHouse x = house();
      Due.accepted(x, "n is " + n, 1, h -> h.lay(SET_PLACE, 0, n));
      Due.is("lies", x.lies(SET_PLACE), 0);
    }
  }

  static void promise37_lay_nothing_where_nothing_lies_is_an_act() {
    MeetHouse x = house();
    int acts = x.size(3);
    Due.accepted(x, "lay", 1, h -> h.lay(EMPTY_PLACE, 0, 0));
    Due.is("acts", x.size(3), acts + 1);
  }

  static void promise37_lay_in_the_first_and_the_last_place() {
    MeetHouse x = house();
    Due.accepted(x, "place 0", 1, h -> h.lay(0, 2, 1));
    Due.accepted(x, "place 15", 1, h -> h.lay(15, 2, 2));
    Due.is("place 0", x.taken(0, 2, 0), 1);
    Due.is("place 15", x.taken(15, 2, 0), 2);
  }

  static void promise37_lay_over_each_other_thing() {
    MeetHouse x = house();
    for (int k = 0; k <= EMPTY_PLACE; k++) {
      int place = k;
      Due.accepted(x, "over " + k, 1, h -> h.lay(place, 2, 6));
      Due.is("lies", x.lies(k), 2);
      Due.is("taken", x.taken(k, 2, 0), 6);
    }
  }

  static void promise37_lay_what_is_laid_stays_while_the_plan_changes() {
    MeetHouse x = house();
    x.part(0, 99);
    partsAre(x, PLAN_PLACE, 10, 20, 30, 40);
    x.even(2);
    partsAre(x, PLAN_PLACE, 10, 20, 30, 40);
  }

  static void promise37_lay_the_widest_plan() {
    MeetHouse x = Houses.equal(16);
    x.even(Houses.told(x, Houses.pairs(0, 16)));
    x.part(119, 1000);
    Due.accepted(x, "lay", 1, h -> h.lay(15, 3, 0));
    Due.is("the last part", x.taken(15, 3, 119), 1000);
    Due.is("behind the last", x.taken(15, 3, 120), -1);
  }

  static void promise37_lay_no_such_place_refused_1() {
    for (int k : NO_PLACE) for (int sort = 0; sort < 4; sort++) layIsRefused(1, k, sort, 1);
  }

  private static void layIsRefused(int status, int k, int sort, int n) {
    Due.refused(status, CaseTest::house, h -> h.lay(k, sort, n));
  }

  static void promise37_lay_no_such_family_refused_1() {
    for (int f : new int[] {-1, 3, 24, MIN, MAX}) layIsRefused(1, FAMILY_PLACE, 1, f);
  }

  static void promise37_lay_no_plan_refused_1() {
    Due.refused(1, CaseTest::noPlan, h -> h.lay(0, 3, 0));
  }

  static void promise37_lay_no_such_sort_refused_2() {
    for (int sort : new int[] {-1, 4, MIN, MAX}) layIsRefused(2, PLAN_PLACE, sort, 1);
  }

  static void promise37_lay_an_empty_set_refused_2() {
    layIsRefused(2, PLAN_PLACE, 2, 0);
  }

  static void promise37_lay_a_set_with_a_keeper_that_is_not_there_refused_2() {
    for (int set : new int[] {128, 129, 65536, -1, MIN, MAX}) layIsRefused(2, PLAN_PLACE, 2, set);
  }

  static void promise37_lay_no_such_place_goes_ahead_of_the_rest_refused_1() {
    layIsRefused(1, 16, 4, 0);
    layIsRefused(1, 16, 2, 0);
    layIsRefused(1, -1, 2, 128);
  }

  // ---- 38: lies

  static void promise38_lies_the_sort() {
    MeetHouse x = house();
    int[] due = {1, 2, 3, 3, 3, 0};
    for (int k = 0; k < due.length; k++) {
      int place = k;
      Due.accepted(x, "lies " + k, due[k], h -> h.lies(place));
    }
  }

  static void promise38_lies_in_the_last_place() {
    MeetHouse x = house();
    Due.accepted(x, "nothing", 0, h -> h.lies(15));
    x.lay(15, 2, 1);
    Due.accepted(x, "a set", 2, h -> h.lies(15));
  }

  static void promise38_lies_no_such_place_refused_1() {
    for (int k : NO_PLACE) Due.refused(1, CaseTest::house, h -> h.lies(k));
  }

  // ---- 39: taken

  static void promise39_taken_a_family_i_is_no_matter() {
    MeetHouse x = house();
    for (int i : new int[] {0, -1, 99, MIN, MAX}) Due.accepted(x, "i is " + i, 1, h -> h.taken(FAMILY_PLACE, 1, i));
  }

  static void promise39_taken_a_set_i_is_no_matter() {
    MeetHouse x = house();
    for (int i : new int[] {0, -1, 99, MIN, MAX}) Due.accepted(x, "i is " + i, 9, h -> h.taken(SET_PLACE, 2, i));
  }

  static void promise39_taken_first_and_last_part() {
    MeetHouse x = house();
    Due.accepted(x, "first", 10, h -> h.taken(PLAN_PLACE, 3, 0));
    Due.accepted(x, "last", 40, h -> h.taken(PLAN_PLACE, 3, 3));
    Due.accepted(x, "a part of 0", 0, h -> h.taken(ZERO_PLAN_PLACE, 3, 1));
  }

  static void promise39_taken_leaves_it_lying() {
    MeetHouse x = house();
    x.taken(SET_PLACE, 2, 0);
    Due.accepted(x, "again", 9, h -> h.taken(SET_PLACE, 2, 0));
  }

  private static void takenIsRefused(int status, int k, int sort, int i) {
    Due.refused(status, CaseTest::house, h -> h.taken(k, sort, i));
  }

  static void promise39_taken_no_such_place_refused_1() {
    for (int k : NO_PLACE) for (int sort = 1; sort < 4; sort++) takenIsRefused(1, k, sort, 0);
  }

  static void promise39_taken_no_such_part_refused_1() {
    for (int i : new int[] {-1, 4, 119, 120, MIN, MAX}) takenIsRefused(1, PLAN_PLACE, 3, i);
    takenIsRefused(1, SMALL_PLAN_PLACE, 3, 2);
  }

  static void promise39_taken_no_such_sort_refused_2() {
    for (int sort : new int[] {0, -1, 4, MIN, MAX}) for (int k = 0; k < 3; k++) takenIsRefused(2, k, sort, 0);
  }

  static void promise39_taken_no_such_sort_where_nothing_lies_refused_2() {
    for (int sort : new int[] {0, -1, 4}) takenIsRefused(2, EMPTY_PLACE, sort, 0);
  }

  static void promise39_taken_a_family_for_another_thing_refused_6() {
    takenIsRefused(6, FAMILY_PLACE, 2, 0);
    takenIsRefused(6, FAMILY_PLACE, 3, 0);
  }

  static void promise39_taken_a_set_for_another_thing_refused_6() {
    takenIsRefused(6, SET_PLACE, 1, 0);
    takenIsRefused(6, SET_PLACE, 3, 0);
  }

  static void promise39_taken_a_plan_for_another_thing_refused_6() {
    takenIsRefused(6, PLAN_PLACE, 1, 0);
    takenIsRefused(6, PLAN_PLACE, 2, 0);
  }

  static void promise39_taken_where_nothing_lies_refused_6() {
    for (int sort = 1; sort < 4; sort++) takenIsRefused(6, EMPTY_PLACE, sort, 0);
    for (int sort = 1; sort < 4; sort++) takenIsRefused(6, 15, sort, 0);
  }

  static void promise39_taken_where_a_plan_lay_once_refused_6() {
    Due.refused(6, () -> {
      MeetHouse x = house();
      x.lay(PLAN_PLACE, 0, 0);
      return x;
    }, h -> h.taken(PLAN_PLACE, 3, 0));
  }

  static void promise39_taken_no_such_place_goes_ahead_of_the_sort_refused_1() {
    takenIsRefused(1, 16, 4, 0);
    takenIsRefused(1, -1, 0, 0);
  }

  static void promise39_taken_another_thing_has_no_part_i_refused_6() {
    takenIsRefused(6, FAMILY_PLACE, 3, -1);
    takenIsRefused(6, EMPTY_PLACE, 3, 120);
  }

  // ---- 40: copy

  static void promise40_copy_to_another_place() {
    MeetHouse x = house();
    x.lay(6, 3, 0);
    Due.accepted(x, "copy", 1, h -> h.copy(PLAN_PLACE, 0, 6, 1, 3));
    partsAre(x, 6, 10, 10, 20, 30);
    partsAre(x, PLAN_PLACE, 10, 20, 30, 40);
  }

  static void promise40_copy_upwards_in_one_place_as_they_were() {
    MeetHouse x = house();
    Due.accepted(x, "copy", 1, h -> h.copy(PLAN_PLACE, 0, PLAN_PLACE, 1, 3));
    partsAre(x, PLAN_PLACE, 10, 10, 20, 30);
  }

  static void promise40_copy_downwards_in_one_place_as_they_were() {
    MeetHouse x = house();
    Due.accepted(x, "copy", 1, h -> h.copy(PLAN_PLACE, 1, PLAN_PLACE, 0, 3));
    partsAre(x, PLAN_PLACE, 20, 30, 40, 40);
  }

  static void promise40_copy_onto_themselves() {
    MeetHouse x = house();
    Due.accepted(x, "copy", 1, h -> h.copy(PLAN_PLACE, 0, PLAN_PLACE, 0, 4));
    partsAre(x, PLAN_PLACE, 10, 20, 30, 40);
  }

  static void promise40_copy_all_parts() {
    MeetHouse x = house();
    x.even(0);
    x.lay(6, 3, 0);
    Due.accepted(x, "copy", 1, h -> h.copy(PLAN_PLACE, 0, 6, 0, 4));
    partsAre(x, 6, 10, 20, 30, 40);
  }

  static void promise40_copy_the_last_part_over_the_last() {
    MeetHouse x = house();
    Due.accepted(x, "copy", 1, h -> h.copy(PLAN_PLACE, 3, SMALL_PLAN_PLACE, 1, 1));
    partsAre(x, SMALL_PLAN_PLACE, 1, 40);
  }

  static void promise40_copy_none_is_accepted_and_an_act() {
    MeetHouse x = house();
    int acts = x.size(3);
    Due.accepted(x, "from 0", 1, h -> h.copy(PLAN_PLACE, 0, SMALL_PLAN_PLACE, 0, 0));
    Due.accepted(x, "behind the last ones", 1, h -> h.copy(PLAN_PLACE, 4, SMALL_PLAN_PLACE, 2, 0));
    partsAre(x, SMALL_PLAN_PLACE, 1, 5);
    Due.is("acts", x.size(3), acts + 2);
  }

  static void promise40_copy_leaves_the_plan() {
    MeetHouse x = house();
    x.copy(PLAN_PLACE, 1, PLAN_PLACE, 0, 1);
    Due.is("the plan's part", x.partOf(0), 10);
  }

  static void promise40_copy_may_leave_parts_of_0_alone() {
    MeetHouse x = house();
    Due.accepted(x, "copy", 1, h -> h.copy(ZERO_PLAN_PLACE, 0, SMALL_PLAN_PLACE, 0, 2));
    partsAre(x, SMALL_PLAN_PLACE, 0, 0);
  }

  static void promise40_copy_of_120_parts() {
    MeetHouse x = Houses.equal(16);
    x.even(Houses.told(x, Houses.pairs(0, 16)));
    x.part(119, 1000);
    x.lay(0, 3, 0);
    Due.accepted(x, "all but the first go down", 1, h -> h.copy(0, 1, 0, 0, 119));
    Due.is("moved", x.taken(0, 3, 118), 1000);
    Due.is("stays", x.taken(0, 3, 119), 1000);
    Due.is("the first", x.taken(0, 3, 0), 1);
    Due.accepted(x, "all", 1, h -> h.copy(0, 0, 0, 0, 120));
    Due.accepted(x, "all but the last go up", 1, h -> h.copy(0, 0, 0, 1, 119));
    Due.is("stayed", x.taken(0, 3, 117), 1);
    Due.is("moved up", x.taken(0, 3, 119), 1000);
  }

  private static void copyIsRefused(int status, int j, int i, int k, int m, int n) {
    Due.refused(status, CaseTest::house, h -> h.copy(j, i, k, m, n));
  }

  static void promise40_copy_no_such_first_place_refused_1() {
    for (int j : NO_PLACE) copyIsRefused(1, j, 0, PLAN_PLACE, 0, 1);
  }

  static void promise40_copy_no_such_other_place_refused_1() {
    for (int k : NO_PLACE) copyIsRefused(1, PLAN_PLACE, 0, k, 0, 1);
  }

  static void promise40_copy_from_what_is_no_plan_refused_6() {
    for (int j : new int[] {FAMILY_PLACE, SET_PLACE, EMPTY_PLACE, 15}) copyIsRefused(6, j, 0, PLAN_PLACE, 0, 1);
  }

  static void promise40_copy_to_what_is_no_plan_refused_6() {
    for (int k : new int[] {FAMILY_PLACE, SET_PLACE, EMPTY_PLACE, 15}) copyIsRefused(6, PLAN_PLACE, 0, k, 0, 1);
  }

  static void promise40_copy_below_0_refused_2() {
    for (int n : new int[] {-1, MIN}) {
      copyIsRefused(2, PLAN_PLACE, n, SMALL_PLAN_PLACE, 0, 1);
      copyIsRefused(2, PLAN_PLACE, 0, SMALL_PLAN_PLACE, n, 1);
      copyIsRefused(2, PLAN_PLACE, 0, SMALL_PLAN_PLACE, 0, n);
      copyIsRefused(2, PLAN_PLACE, n, SMALL_PLAN_PLACE, n, n);
    }
  }

  static void promise40_copy_not_so_many_in_the_first_refused_2() {
    copyIsRefused(2, PLAN_PLACE, 4, SMALL_PLAN_PLACE, 0, 1);
    copyIsRefused(2, PLAN_PLACE, 3, SMALL_PLAN_PLACE, 0, 2);
    copyIsRefused(2, SMALL_PLAN_PLACE, 0, PLAN_PLACE, 0, 3);
    copyIsRefused(2, PLAN_PLACE, MAX, SMALL_PLAN_PLACE, 0, 1);
  }

  static void promise40_copy_not_so_many_in_the_other_refused_2() {
    copyIsRefused(2, PLAN_PLACE, 0, SMALL_PLAN_PLACE, 2, 1);
    copyIsRefused(2, PLAN_PLACE, 0, SMALL_PLAN_PLACE, 1, 2);
    copyIsRefused(2, PLAN_PLACE, 0, SMALL_PLAN_PLACE, 0, 3);
    copyIsRefused(2, PLAN_PLACE, 0, SMALL_PLAN_PLACE, MAX, 1);
  }

  static void promise40_copy_none_from_beyond_the_end_refused_2() {
    copyIsRefused(2, PLAN_PLACE, 5, SMALL_PLAN_PLACE, 0, 0);
    copyIsRefused(2, PLAN_PLACE, 0, SMALL_PLAN_PLACE, 3, 0);
  }

  static void promise40_copy_far_too_many_refused_2() {
    copyIsRefused(2, PLAN_PLACE, 0, PLAN_PLACE, 0, 5);
    copyIsRefused(2, PLAN_PLACE, 1, PLAN_PLACE, 1, MAX);
    copyIsRefused(2, PLAN_PLACE, MAX, PLAN_PLACE, MAX, MAX);
  }

  static void promise40_copy_no_such_place_goes_ahead_of_another_thing_refused_1() {
    copyIsRefused(1, FAMILY_PLACE, -1, 16, 0, 1);
    copyIsRefused(1, 16, -1, FAMILY_PLACE, 0, 1);
  }

  static void promise40_copy_another_thing_goes_ahead_of_a_number_refused_6() {
    copyIsRefused(6, FAMILY_PLACE, -1, PLAN_PLACE, 0, 1);
    copyIsRefused(6, PLAN_PLACE, 0, EMPTY_PLACE, 0, -1);
  }

  // ---- 41: use

  static void promise41_use_is_the_plan() {
    MeetHouse x = house();
    Due.accepted(x, "use", 1, h -> h.use(SMALL_PLAN_PLACE));
    Due.is("its family", x.load(0), 2);
    Due.is("first part", x.partOf(0), 1);
    Due.is("last part", x.partOf(1), 5);
    Due.is("behind the last", x.partOf(2), -1);
  }

  static void promise41_use_from_the_last_place() {
    MeetHouse x = house();
    x.lay(15, 3, 0);
    x.part(0, 8);
    Due.accepted(x, "use", 1, h -> h.use(15));
    Due.is("its part", x.partOf(0), 10);
  }

  static void promise41_use_leaves_what_lies_there() {
    MeetHouse x = house();
    x.use(SMALL_PLAN_PLACE);
    x.part(0, 77);
    partsAre(x, SMALL_PLAN_PLACE, 1, 5);
  }

  static void promise41_use_is_apart_from_what_is_copied_later() {
    MeetHouse x = house();
    x.use(SMALL_PLAN_PLACE);
    x.copy(PLAN_PLACE, 2, SMALL_PLAN_PLACE, 0, 2);
    Due.is("its part", x.partOf(0), 1);
  }

  static void promise41_use_one_part_that_is_not_0_is_enough() {
    MeetHouse x = house();
    x.copy(SMALL_PLAN_PLACE, 0, ZERO_PLAN_PLACE, 1, 1);
    Due.accepted(x, "use", 1, h -> h.use(ZERO_PLAN_PLACE));
    Due.is("its parts", x.partOf(0) * 10 + x.partOf(1), 1);
  }

  static void promise41_use_no_such_place_refused_1() {
    for (int k : NO_PLACE) Due.refused(1, CaseTest::house, h -> h.use(k));
  }

  static void promise41_use_what_is_no_plan_refused_6() {
    Due.refused(6, CaseTest::house, h -> h.use(FAMILY_PLACE));
    Due.refused(6, CaseTest::house, h -> h.use(SET_PLACE));
  }

  static void promise41_use_where_nothing_lies_refused_6() {
    Due.refused(6, CaseTest::house, h -> h.use(EMPTY_PLACE));
    Due.refused(6, MeetHouse::new, h -> h.use(0));
  }

  static void promise41_use_all_parts_are_0_refused_5() {
    Due.refused(5, CaseTest::house, h -> h.use(ZERO_PLAN_PLACE));
  }

  public static void main(String[] args) {
    Cases.run(CaseTest.class, args);
  }
}
