/** Promises 5 to 11, 17 and 18. */
public final class FamiliesTest {
  private static final int MIN = Integer.MIN_VALUE;
  private static final int MAX = Integer.MAX_VALUE;

  private static MeetHouse house() {
    return Houses.furnished();
  }

  private static MeetHouse sixteen() {
    return Houses.equal(16);
  }

  private static MeetHouse fullSixteen() {
    return Houses.filled(sixteen());
  }

  /** A majority of these nine has 121 QUORUMS. */
  private static MeetHouse with121() {
    return Houses.ofStrengths(4, 4, 4, 3, 3, 3, 3, 3, 3);
  }

  // ---- 5: list

  static void promise05_list_answers_how_many_up_to_120() {
    MeetHouse x = Houses.equal(3);
    for (int i = 1; i <= 120; i++) Due.is("list", x.list(1 + i % 7), i);
    Due.is("accepted", x.status(), 0);
    Due.is("size", x.size(2), 120);
  }

  static void promise05_list_accepts_with_status_0() {
    Due.accepted(house(), "list(127)", 2, h -> h.list(127));
  }

  static void promise05_list_takes_all_sixteen_keepers() {
    MeetHouse x = sixteen();
    Due.is("all", x.list(65535), 1);
    Due.is("the last alone", x.list(32768), 2);
  }

  static void promise05_list_takes_a_set_twice() {
    MeetHouse x = Houses.equal(3);
    x.list(5);
    Due.is("again", x.list(5), 2);
  }

  static void promise05_list_is_no_act() {
    MeetHouse x = Houses.equal(3);
    x.list(5);
    Due.is("acts", x.size(3), 3);
  }

  static void promise05_list_empty_set_refused_2() {
    Due.refused(2, FamiliesTest::house, h -> h.list(0));
  }

  static void promise05_list_a_keeper_that_is_not_there_refused_2() {
    for (int s : new int[] {128, 129, 255, 65535, 65536, 65537, -1, MIN, MAX}) Due.refused(2, FamiliesTest::house, h -> h.list(s));
    for (int s : new int[] {65536, 65537, -1, MIN}) Due.refused(2, FamiliesTest::sixteen, h -> h.list(s));
    Due.refused(2, MeetHouse::new, h -> h.list(1));
  }

  private static MeetHouse fullList() {
    MeetHouse x = Houses.equal(3);
    for (int i = 0; i < 120; i++) x.list(7);
    return x;
  }

  static void promise05_list_set_121_refused_4() {
    Due.refused(4, FamiliesTest::fullList, h -> h.list(7));
  }

  static void promise05_list_a_number_goes_ahead_of_no_room_refused_2() {
    Due.refused(2, FamiliesTest::fullList, h -> h.list(8));
    Due.refused(2, FamiliesTest::fullList, h -> h.list(0));
  }

  // ---- 6: told

  static void promise06_told_keeps_the_least_once_by_their_numbers() {
    MeetHouse x = Houses.equal(4);
    Houses.quorums("told", x, Houses.told(x, 12, 6, 3, 7, 3, 14, 6), 0, 3, 6, 12);
  }

  static void promise06_told_of_one_set() {
    MeetHouse x = sixteen();
    Houses.quorums("told", x, Houses.told(x, 65535), 0, 65535);
  }

  static void promise06_told_of_one_set_within_all_others() {
    MeetHouse x = sixteen();
    Houses.quorums("told", x, Houses.told(x, 65535, 40960, 32768, 32769), 0, 32768);
  }

  static void promise06_told_leaves_the_list_empty() {
    MeetHouse x = house();
    Due.accepted(x, "told", 3, MeetHouse::told);
    Due.is("the list", x.size(2), 0);
    Due.is("nothing is told again", x.told(), -1);
  }

  static void promise06_told_120_sets_are_never_many() {
    MeetHouse x = sixteen();
    for (int set : Houses.pairs(0, 16)) x.list(set);
    Due.accepted(x, "told", 0, MeetHouse::told);
    Due.is("quorums", x.family(0, 1), 120);
    Due.is("the first", x.quorum(0, 0), 3);
    Due.is("the last", x.quorum(0, 119), 49152);
    Due.is("behind the last", x.quorum(0, 120), -1);
  }

  static void promise06_told_makes_the_24th_family() {
    MeetHouse x = fullSixteen();
    x.undo();
    x.list(9);
    Due.accepted(x, "told", 23, MeetHouse::told);
    Due.is("its quorum", x.quorum(23, 0), 9);
  }

  static void promise06_told_of_an_empty_list_refused_5() {
    Due.refused(5, FamiliesTest::sixteen, MeetHouse::told);
  }

  static void promise06_told_a_25th_family_refused_4() {
    Due.refused(4, Houses::full, MeetHouse::told);
  }

  static void promise06_told_an_empty_list_goes_ahead_of_no_room_refused_5() {
    Due.refused(5, FamiliesTest::fullSixteen, MeetHouse::told);
  }

  static void promise06_told_refused_leaves_the_list_to_be_told_later() {
    MeetHouse x = fullSixteen();
    x.list(6);
    x.list(40);
    x.told();
    Due.is("the list stays", x.size(2), 2);
    x.undo();
    Due.is("with room", x.told(), 23);
    Houses.quorums("with room", x, 23, 0, 6, 40);
  }

  // ---- 7: most

  static void promise07_most_by_unlike_strengths() {
    MeetHouse x = Houses.ofStrengths(1, 2, 3, 1);
    Houses.quorums("most(15)", x, x.most(15), 1, 5, 6, 11, 12);
  }

  static void promise07_most_exactly_half_is_not_enough() {
    MeetHouse x = Houses.ofStrengths(1, 2, 3, 1);
    Houses.quorums("1 of 2", x, x.most(9), 1, 9);
    Houses.quorums("3 of 6", x, x.most(14), 1, 6, 12);
    MeetHouse y = Houses.equal(4);
    Houses.quorums("2 of 4", y, y.most(15), 1, 7, 11, 13, 14);
  }

  static void promise07_most_one_above_half_is_enough() {
    MeetHouse x = Houses.ofStrengths(50, 25, 24);
    Houses.quorums("50 of 99", x, x.most(7), 1, 1);
    MeetHouse y = Houses.ofStrengths(49, 25, 24);
    Houses.quorums("49 of 98", y, y.most(7), 1, 3, 5);
  }

  static void promise07_most_of_one_keeper() {
    MeetHouse x = Houses.ofStrengths(1, 100);
    Houses.quorums("most(1)", x, x.most(1), 1, 1);
    Houses.quorums("most(2)", x, x.most(2), 1, 2);
  }

  static void promise07_most_of_two_alike_needs_both() {
    MeetHouse x = sixteen();
    Houses.quorums("most(32769)", x, x.most(32769), 1, 32769);
  }

  static void promise07_most_wherever_the_strong_one_stands() {
    for (int strong = 0; strong < 4; strong++) {
      int[] strengths = {2, 2, 2, 2};
      strengths[strong] = 5;
      MeetHouse x = Houses.ofStrengths(strengths);
      int[] due = new int[4];
      for (int k = 0; k < 4; k++) due[k] = k == strong ? 15 - (1 << k) : 1 << strong | 1 << k;
      java.util.Arrays.sort(due);
      Houses.quorums("strong is " + strong, x, x.most(15), 1, due);
    }
  }

  static void promise07_most_of_sixteen_with_one_that_rules() {
    MeetHouse x = new MeetHouse();
    for (int k = 0; k < 16; k++) x.keeper(k == 9 ? 100 : 6, 5);
    Houses.quorums("100 of 190", x, x.most(65535), 1, 512);
  }

  static void promise07_most_of_120_quorums_is_made() {
    int[][] orders = {{5, 4, 3, 3, 2, 2, 2, 2, 2, 1}, {1, 2, 2, 2, 2, 2, 3, 3, 4, 5}, {1, 5, 4, 3, 3, 2, 2, 2, 2, 2}};
    for (int[] strengths : orders) {
      MeetHouse x = Houses.ofStrengths(strengths);
      Due.accepted(x, "most(1023)", 0, h -> h.most(1023));
      Due.is("quorums", x.family(0, 1), 120);
    }
  }

  static void promise07_most_of_121_quorums_refused_3() {
    Due.refused(3, FamiliesTest::with121, h -> h.most(511));
    Due.refused(3, () -> Houses.equal(9), h -> h.most(511));
    Due.refused(3, FamiliesTest::sixteen, h -> h.most(65535));
  }

  static void promise07_most_behind_one_that_was_many() {
    MeetHouse x = sixteen();
    Due.is("many", x.most(65535), -1);
    Houses.quorums("most(7)", x, x.most(7), 1, 3, 5, 6);
  }

  static void promise07_most_one_behind_the_other_counts_each_by_itself() {
    MeetHouse x = sixteen();
    for (int i = 0; i < 10; i++) Due.is("quorums of " + i, x.family(x.most(127 << i % 9), 1), 35);
  }

  static void promise07_most_of_an_empty_set_refused_2() {
    Due.refused(2, FamiliesTest::house, h -> h.most(0));
  }

  static void promise07_most_a_keeper_that_is_not_there_refused_2() {
    for (int s : new int[] {128, 255, 65536, -1, MIN, MAX}) Due.refused(2, FamiliesTest::house, h -> h.most(s));
    Due.refused(2, FamiliesTest::sixteen, h -> h.most(65537));
  }

  static void promise07_most_no_room_refused_4() {
    Due.refused(4, Houses::full, h -> h.most(7));
  }

  static void promise07_most_no_room_goes_ahead_of_many_refused_4() {
    Due.refused(4, FamiliesTest::fullSixteen, h -> h.most(65535));
  }

  static void promise07_most_a_number_goes_ahead_of_no_room_refused_2() {
    Due.refused(2, Houses::full, h -> h.most(0));
    Due.refused(2, Houses::full, h -> h.most(128));
  }

  // ---- 8: grid

  static void promise08_grid_all_of_a_row_and_one_of_each_below() {
    MeetHouse x = sixteen();
    Houses.quorums("2 x 2", x, x.grid(2, 2, 0), 2, 7, 11, 12);
    Houses.quorums("2 x 3", x, x.grid(2, 3, 0), 2, 15, 23, 39, 56);
    Houses.quorums("3 x 2", x, x.grid(3, 2, 0), 2, 23, 27, 28, 39, 43, 44, 48);
  }

  static void promise08_grid_least_1_by_1() {
    MeetHouse x = Houses.equal(1);
    Houses.quorums("1 x 1", x, x.grid(1, 1, 0), 2, 1);
  }

  static void promise08_grid_one_row_of_16() {
    MeetHouse x = sixteen();
    Houses.quorums("1 x 16", x, x.grid(1, 16, 0), 2, 65535);
  }

  static void promise08_grid_16_rows_of_one_are_the_last_row() {
    MeetHouse x = sixteen();
    Houses.quorums("16 x 1", x, x.grid(16, 1, 0), 2, 32768);
  }

  static void promise08_grid_up_to_the_last_keeper() {
    MeetHouse x = sixteen();
    Houses.quorums("2 x 2 from 12", x, x.grid(2, 2, 12), 2, 7 << 12, 11 << 12, 12 << 12);
    Houses.quorums("1 x 1 from 15", x, x.grid(1, 1, 15), 2, 32768);
  }

  static void promise08_grid_of_85_quorums_is_made() {
    MeetHouse x = sixteen();
    Due.accepted(x, "grid(4, 4, 0)", 0, h -> h.grid(4, 4, 0));
    Due.is("quorums", x.family(0, 1), 85);
  }

  static void promise08_grid_of_121_quorums_refused_3() {
    Due.refused(3, FamiliesTest::sixteen, h -> h.grid(5, 3, 0));
    Due.refused(3, FamiliesTest::sixteen, h -> h.grid(7, 2, 0));
    Due.refused(3, FamiliesTest::sixteen, h -> h.grid(8, 2, 0));
  }

  static void promise08_grid_behind_one_that_was_many() {
    MeetHouse x = sixteen();
    Due.is("many", x.grid(8, 2, 0), -1);
    Houses.quorums("2 x 2", x, x.grid(2, 2, 0), 2, 7, 11, 12);
  }

  static void promise08_grid_rows_too_few_refused_2() {
    for (int r : new int[] {0, -1, MIN}) Due.refused(2, FamiliesTest::house, h -> h.grid(r, 1, 0));
  }

  static void promise08_grid_rows_too_many_refused_2() {
    for (int r : new int[] {17, MAX}) Due.refused(2, FamiliesTest::house, h -> h.grid(r, 1, 0));
  }

  static void promise08_grid_columns_too_few_refused_2() {
    for (int c : new int[] {0, -1, MIN}) Due.refused(2, FamiliesTest::house, h -> h.grid(1, c, 0));
  }

  static void promise08_grid_columns_too_many_refused_2() {
    for (int c : new int[] {17, MAX}) Due.refused(2, FamiliesTest::house, h -> h.grid(1, c, 0));
  }

  static void promise08_grid_first_below_0_refused_1() {
    for (int first : new int[] {-1, -2, MIN}) Due.refused(1, FamiliesTest::house, h -> h.grid(1, 2, first));
  }

  static void promise08_grid_first_behind_the_last_keeper_refused_1() {
    for (int first : new int[] {7, 8, 16, MAX}) Due.refused(1, FamiliesTest::house, h -> h.grid(1, 1, first));
  }

  static void promise08_grid_last_keeper_is_not_there_refused_1() {
    Due.refused(1, FamiliesTest::house, h -> h.grid(2, 2, 4));
    Due.refused(1, FamiliesTest::house, h -> h.grid(2, 4, 0));
    Due.refused(1, FamiliesTest::sixteen, h -> h.grid(2, 2, 13));
    Due.refused(1, FamiliesTest::sixteen, h -> h.grid(16, 16, 0));
    Due.refused(1, FamiliesTest::sixteen, h -> h.grid(1, 16, 1));
  }

  static void promise08_grid_no_room_refused_4() {
    Due.refused(4, Houses::full, h -> h.grid(2, 2, 0));
  }

  static void promise08_grid_a_number_goes_ahead_of_a_keeper_refused_2() {
    Due.refused(2, FamiliesTest::house, h -> h.grid(17, 1, 99));
    Due.refused(2, Houses::full, h -> h.grid(1, 0, -1));
  }

  static void promise08_grid_a_keeper_goes_ahead_of_no_room_refused_1() {
    Due.refused(1, Houses::full, h -> h.grid(2, 4, 0));
  }

  static void promise08_grid_no_room_goes_ahead_of_many_refused_4() {
    Due.refused(4, FamiliesTest::fullSixteen, h -> h.grid(5, 3, 0));
  }

  // ---- 9: wall

  static void promise09_wall_all_of_a_row_and_one_of_each_below() {
    MeetHouse x = sixteen();
    Houses.quorums("1 2", x, x.wall(0, 1, 2, 0, 0, 0), 3, 3, 5, 6);
    Houses.quorums("3 2", x, x.wall(0, 3, 2, 0, 0, 0), 3, 15, 23, 24);
  }

  static void promise09_wall_up_to_the_first_length_of_0() {
    MeetHouse x = sixteen();
    Houses.quorums("one row", x, x.wall(0, 2, 0, 2, 2, 2), 3, 3);
    Houses.quorums("two rows", x, x.wall(0, 2, 2, 0, 2, 2), 3, 7, 11, 12);
    Houses.quorums("three rows", x, x.wall(0, 1, 2, 2, 0, 2), 3, 11, 13, 14, 19, 21, 22, 24);
    int four = x.wall(0, 1, 2, 2, 2, 0);
    Due.is("four rows", x.family(four, 1), 15);
    Due.is("four rows, all keepers", x.family(four, 2), 127);
  }

  static void promise09_wall_keepers_behind_the_first_length_of_0_need_not_be_there() {
    MeetHouse x = sixteen();
    Houses.quorums("16", x, x.wall(0, 16, 0, 16, 16, 16), 3, 65535);
  }

  static void promise09_wall_of_five_rows() {
    MeetHouse x = sixteen();
    int f = x.wall(0, 2, 2, 2, 2, 2);
    Due.is("quorums", x.family(f, 1), 31);
    Due.is("the first row and one of each below", x.has(f, 3 | 4 | 16 | 64 | 256), 1);
    Due.is("without the last row", x.has(f, 255), 0);
    Due.is("the last row alone", x.quorum(f, 30), 768);
    Houses.quorums("five rows of one", x, x.wall(11, 1, 1, 1, 1, 1), 3, 32768);
  }

  static void promise09_wall_a_row_of_one_is_within_all_above_it() {
    MeetHouse x = sixteen();
    Houses.quorums("2 1 3", x, x.wall(0, 2, 1, 3, 0, 0), 3, 12, 20, 36, 56);
  }

  static void promise09_wall_up_to_the_last_keeper() {
    MeetHouse x = sixteen();
    Houses.quorums("from 13", x, x.wall(13, 1, 2, 0, 0, 0), 3, 3 << 13, 5 << 13, 6 << 13);
  }

  static void promise09_wall_of_120_quorums_is_made() {
    MeetHouse x = sixteen();
    Due.accepted(x, "wall(0, 2, 3, 4, 7, 0)", 0, h -> h.wall(0, 2, 3, 4, 7, 0));
    Due.is("quorums", x.family(0, 1), 120);
  }

  static void promise09_wall_of_121_quorums_refused_3() {
    Due.refused(3, FamiliesTest::sixteen, h -> h.wall(0, 1, 3, 3, 3, 3));
    Due.refused(3, FamiliesTest::sixteen, h -> h.wall(0, 3, 3, 3, 3, 4));
  }

  static void promise09_wall_behind_one_that_was_many() {
    MeetHouse x = sixteen();
    Due.is("many", x.wall(0, 1, 3, 4, 4, 4), -1);
    Houses.quorums("1 2", x, x.wall(0, 1, 2, 0, 0, 0), 3, 3, 5, 6);
  }

  static void promise09_wall_first_length_0_refused_2() {
    Due.refused(2, FamiliesTest::house, h -> h.wall(0, 0, 0, 0, 0, 0));
    Due.refused(2, FamiliesTest::house, h -> h.wall(0, 0, 1, 1, 1, 1));
  }

  static void promise09_wall_a_length_too_small_refused_2() {
    for (int n : new int[] {-1, MIN}) aLength(n);
  }

  static void promise09_wall_a_length_too_large_refused_2() {
    for (int n : new int[] {17, MAX}) aLength(n);
  }

  private static void aLength(int n) {
    Due.refused(2, FamiliesTest::house, h -> h.wall(0, n, 1, 1, 1, 1));
    Due.refused(2, FamiliesTest::house, h -> h.wall(0, 1, n, 1, 1, 1));
    Due.refused(2, FamiliesTest::house, h -> h.wall(0, 1, 1, n, 1, 1));
    Due.refused(2, FamiliesTest::house, h -> h.wall(0, 1, 1, 1, n, 1));
    Due.refused(2, FamiliesTest::house, h -> h.wall(0, 1, 1, 1, 1, n));
  }

  static void promise09_wall_a_wrong_length_behind_the_first_0_refused_2() {
    Due.refused(2, FamiliesTest::house, h -> h.wall(0, 1, 0, -1, 0, 0));
    Due.refused(2, FamiliesTest::house, h -> h.wall(0, 1, 0, 0, 0, 17));
  }

  static void promise09_wall_first_below_0_refused_1() {
    for (int first : new int[] {-1, -2, MIN}) Due.refused(1, FamiliesTest::house, h -> h.wall(first, 3, 0, 0, 0, 0));
  }

  static void promise09_wall_last_keeper_is_not_there_refused_1() {
    Due.refused(1, FamiliesTest::house, h -> h.wall(0, 2, 2, 4, 0, 0));
    Due.refused(1, FamiliesTest::house, h -> h.wall(7, 1, 0, 0, 0, 0));
    Due.refused(1, FamiliesTest::house, h -> h.wall(MAX, 1, 0, 0, 0, 0));
    Due.refused(1, FamiliesTest::sixteen, h -> h.wall(14, 1, 2, 0, 0, 0));
    Due.refused(1, FamiliesTest::sixteen, h -> h.wall(0, 16, 16, 16, 16, 16));
  }

  static void promise09_wall_no_room_refused_4() {
    Due.refused(4, Houses::full, h -> h.wall(0, 1, 2, 0, 0, 0));
  }

  static void promise09_wall_a_number_goes_ahead_of_a_keeper_refused_2() {
    Due.refused(2, FamiliesTest::house, h -> h.wall(99, 1, 17, 0, 0, 0));
    Due.refused(2, Houses::full, h -> h.wall(-1, 0, 1, 0, 0, 0));
  }

  static void promise09_wall_a_keeper_goes_ahead_of_no_room_refused_1() {
    Due.refused(1, Houses::full, h -> h.wall(0, 2, 2, 4, 0, 0));
  }

  static void promise09_wall_no_room_goes_ahead_of_many_refused_4() {
    Due.refused(4, FamiliesTest::fullSixteen, h -> h.wall(0, 1, 3, 3, 3, 3));
  }

  // ---- 10: tree

  static void promise10_tree_of_depth_1_is_its_node() {
    MeetHouse x = sixteen();
    Houses.quorums("from 0", x, x.tree(1, 0), 4, 1);
    Houses.quorums("from the last", x, x.tree(1, 15), 4, 32768);
  }

  static void promise10_tree_of_depth_2() {
    MeetHouse x = sixteen();
    Houses.quorums("from 0", x, x.tree(2, 0), 4, 3, 5, 6);
    Houses.quorums("up to the last", x, x.tree(2, 13), 4, 3 << 13, 5 << 13, 6 << 13);
  }

  static void promise10_tree_of_depth_3() {
    MeetHouse x = Houses.equal(7);
    Houses.quorums("tree(3, 0)", x, x.tree(3, 0), 4, 11, 19, 25, 37, 46, 54, 60, 69, 78, 86, 92, 97, 106, 114, 120);
  }

  static void promise10_tree_of_depth_4_has_255_refused_3() {
    Due.refused(3, FamiliesTest::sixteen, h -> h.tree(4, 0));
    Due.refused(3, FamiliesTest::sixteen, h -> h.tree(4, 1));
    Due.refused(3, () -> Houses.equal(15), h -> h.tree(4, 0));
  }

  static void promise10_tree_behind_one_that_was_many() {
    MeetHouse x = sixteen();
    Due.is("many", x.tree(4, 0), -1);
    Houses.quorums("of depth 2", x, x.tree(2, 0), 4, 3, 5, 6);
  }

  static void promise10_tree_depth_too_small_refused_2() {
    for (int d : new int[] {0, -1, MIN}) Due.refused(2, FamiliesTest::sixteen, h -> h.tree(d, 0));
  }

  static void promise10_tree_depth_too_large_refused_2() {
    for (int d : new int[] {5, 31, 32, 33, MAX}) Due.refused(2, FamiliesTest::sixteen, h -> h.tree(d, 0));
  }

  static void promise10_tree_first_below_0_refused_1() {
    for (int first : new int[] {-1, MIN}) Due.refused(1, FamiliesTest::house, h -> h.tree(1, first));
  }

  static void promise10_tree_last_keeper_is_not_there_refused_1() {
    Due.refused(1, FamiliesTest::house, h -> h.tree(1, 7));
    Due.refused(1, FamiliesTest::house, h -> h.tree(2, 5));
    Due.refused(1, FamiliesTest::house, h -> h.tree(3, 1));
    Due.refused(1, () -> Houses.equal(14), h -> h.tree(4, 0));
    Due.refused(1, FamiliesTest::sixteen, h -> h.tree(4, 2));
    Due.refused(1, FamiliesTest::sixteen, h -> h.tree(4, MAX));
  }

  static void promise10_tree_no_room_refused_4() {
    Due.refused(4, Houses::full, h -> h.tree(2, 0));
  }

  static void promise10_tree_a_number_goes_ahead_of_a_keeper_refused_2() {
    Due.refused(2, Houses::full, h -> h.tree(0, 99));
    Due.refused(2, Houses::full, h -> h.tree(5, -1));
  }

  static void promise10_tree_a_keeper_goes_ahead_of_no_room_refused_1() {
    Due.refused(1, Houses::full, h -> h.tree(3, 1));
  }

  static void promise10_tree_no_room_goes_ahead_of_many_refused_4() {
    Due.refused(4, FamiliesTest::fullSixteen, h -> h.tree(4, 0));
  }

  // ---- 11: plane

  static void promise11_plane_of_order_2_goes_round_at_7() {
    MeetHouse x = Houses.equal(7);
    Houses.quorums("plane(2, 0)", x, x.plane(2, 0), 5, 11, 22, 44, 49, 69, 88, 98);
  }

  static void promise11_plane_of_order_2_up_to_the_last_keeper() {
    MeetHouse x = sixteen();
    Houses.quorums("plane(2, 9)", x, x.plane(2, 9), 5, 11 << 9, 22 << 9, 44 << 9, 49 << 9, 69 << 9, 88 << 9, 98 << 9);
  }

  static void promise11_plane_of_order_3_goes_round_at_13() {
    MeetHouse x = Houses.equal(13);
    int[] due = new int[13];
    for (int i = 0; i < 13; i++) due[i] = 1 << i | 1 << (i + 1) % 13 | 1 << (i + 3) % 13 | 1 << (i + 9) % 13;
    java.util.Arrays.sort(due);
    Houses.quorums("plane(3, 0)", x, x.plane(3, 0), 5, due);
    Due.is("any two meet", x.apart(0, 0), -2);
  }

  static void promise11_plane_of_order_3_up_to_the_last_keeper() {
    MeetHouse x = sixteen();
    int f = x.plane(3, 3);
    Due.is("lines", x.family(f, 1), 13);
    Due.is("keepers", x.family(f, 2), 8191 << 3);
    Due.is("0 1 3 9", x.has(f, 523 << 3), 1);
    Due.is("12 0 2 8, round", x.has(f, (4096 | 1 | 4 | 256) << 3), 1);
  }

  static void promise11_plane_order_too_small_refused_2() {
    for (int o : new int[] {1, 0, -2, MIN}) Due.refused(2, FamiliesTest::sixteen, h -> h.plane(o, 0));
  }

  static void promise11_plane_order_too_large_refused_2() {
    for (int o : new int[] {4, 5, MAX}) Due.refused(2, FamiliesTest::sixteen, h -> h.plane(o, 0));
  }

  static void promise11_plane_first_below_0_refused_1() {
    for (int first : new int[] {-1, MIN}) for (int o = 2; o < 4; o++) aPlane(FamiliesTest::sixteen, o, first);
  }

  static void promise11_plane_last_keeper_is_not_there_refused_1() {
    aPlane(FamiliesTest::house, 2, 1);
    aPlane(FamiliesTest::house, 3, 0);
    aPlane(() -> Houses.equal(6), 2, 0);
    aPlane(() -> Houses.equal(12), 3, 0);
    aPlane(FamiliesTest::sixteen, 2, 10);
    aPlane(FamiliesTest::sixteen, 3, 4);
    aPlane(FamiliesTest::sixteen, 2, MAX);
    aPlane(FamiliesTest::sixteen, 3, MAX - 5);
  }

  private static void aPlane(java.util.function.Supplier<MeetHouse> made, int order, int first) {
    Due.refused(1, made, h -> h.plane(order, first));
  }

  static void promise11_plane_no_room_refused_4() {
    Due.refused(4, Houses::full, h -> h.plane(2, 0));
    Due.refused(4, FamiliesTest::fullSixteen, h -> h.plane(3, 0));
  }

  static void promise11_plane_a_number_goes_ahead_of_a_keeper_refused_2() {
    Due.refused(2, Houses::full, h -> h.plane(4, 99));
    Due.refused(2, Houses::full, h -> h.plane(1, -1));
  }

  static void promise11_plane_a_keeper_goes_ahead_of_no_room_refused_1() {
    Due.refused(1, Houses::full, h -> h.plane(3, 0));
  }

  // ---- 17: family

  static void promise17_family_what_0_to_4() {
    MeetHouse x = Houses.equal(6);
    int f = x.wall(0, 3, 2, 0, 0, 0);
    Due.is("kind", x.family(f, 0), 3);
    Due.is("quorums", x.family(f, 1), 3);
    Due.is("keepers", x.family(f, 2), 31);
    Due.is("fewest", x.family(f, 3), 2);
    Due.is("most", x.family(f, 4), 4);
  }

  static void promise17_family_kinds_are_0_to_10() {
    MeetHouse x = Houses.equal(7);
    x.list(3);
    int[] made = {x.told(), x.most(7), x.grid(2, 2, 0), x.wall(0, 1, 2, 0, 0, 0), x.tree(2, 0), x.plane(2, 0),
        x.join(1, 2, 1), x.dual(1), x.thin(1, 3), x.both(1, 1), x.better(1)};
    for (int i = 0; i < 11; i++) {
      Due.is("number " + i, made[i], i);
      Due.is("kind " + i, x.family(made[i], 0), i);
    }
  }

  private static int make(MeetHouse x, int kind) {
    switch (kind) {
      case 0:
        return Houses.told(x, 5);
      case 1:
        return x.most(7);
      case 2:
        return x.grid(2, 2, 0);
      case 3:
        return x.wall(0, 1, 2, 0, 0, 0);
      case 4:
        return x.tree(2, 0);
      case 5:
        return x.plane(2, 0);
      case 6:
        return x.join(0, 0, 0);
      case 7:
        return x.dual(0);
      case 8:
        return x.thin(0, 127);
      case 9:
        return x.both(0, 0);
      default:
        return x.better(0);
    }
  }

  static void promise17_family_of_each_kind_can_be_the_24th() {
    for (int kind = 0; kind <= 10; kind++) {
      MeetHouse x = Houses.filled(Houses.equal(7));
      x.undo();
      Due.is("its number", make(x, kind), 23);
      Due.is("its kind", x.family(23, 0), kind);
      Due.is("families", x.size(1), 24);
    }
  }

  static void promise17_family_of_one_quorum_of_all_sixteen() {
    MeetHouse x = sixteen();
    int f = Houses.told(x, 65535);
    Due.is("keepers", x.family(f, 2), 65535);
    Due.is("fewest", x.family(f, 3), 16);
    Due.is("most", x.family(f, 4), 16);
  }

  static void promise17_family_of_one_quorum_of_one_keeper() {
    MeetHouse x = sixteen();
    int f = Houses.told(x, 32768);
    Due.is("quorums", x.family(f, 1), 1);
    Due.is("keepers", x.family(f, 2), 32768);
    Due.is("fewest", x.family(f, 3), 1);
    Due.is("most", x.family(f, 4), 1);
  }

  static void promise17_family_no_such_what_is_none() {
    MeetHouse x = house();
    for (int w : new int[] {-1, 5, MIN, MAX}) Due.is("what " + w, x.family(0, w), -1);
  }

  static void promise17_family_no_such_family_is_none() {
    MeetHouse x = house();
    for (int f : new int[] {-1, 3, 23, 24, MIN, MAX}) for (int w = 0; w < 5; w++) Due.is("family " + f, x.family(f, w), -1);
    Due.is("of a full house", Houses.full().family(24, 0), -1);
  }

  static void promise17_family_leaves_the_status() {
    MeetHouse x = house();
    x.keeper(0, 0);
    x.family(0, 0);
    x.family(99, 0);
    Due.is("of keeper()", x.status(), 2);
  }

  // ---- 18: quorum

  static void promise18_quorum_first_and_last() {
    MeetHouse x = house();
    Due.is("first", x.quorum(0, 0), 5);
    Due.is("last", x.quorum(0, 3), 12);
    Due.is("of the last family", x.quorum(2, 1), 2);
  }

  static void promise18_quorum_no_such_quorum_is_none() {
    MeetHouse x = house();
    for (int i : new int[] {-1, 4, 119, 120, MIN, MAX}) Due.is("quorum " + i, x.quorum(0, i), -1);
  }

  static void promise18_quorum_no_such_family_is_none() {
    MeetHouse x = house();
    for (int f : new int[] {-1, 3, 24, MIN, MAX}) Due.is("family " + f, x.quorum(f, 0), -1);
    Due.is("of a full house", Houses.full().quorum(24, 0), -1);
  }

  static void promise18_quorum_leaves_the_status() {
    MeetHouse x = house();
    x.keeper(0, 0);
    x.quorum(0, 0);
    x.quorum(0, 99);
    Due.is("of keeper()", x.status(), 2);
  }

  public static void main(String[] args) {
    Cases.run(FamiliesTest.class, args);
  }
}
