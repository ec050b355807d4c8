import java.util.ArrayList;
import java.util.List;

/** Promises 12 to 16: families that are made of families. */
public final class MadeOfOthersTest {
  private static final int MIN = Integer.MIN_VALUE;
  private static final int MAX = Integer.MAX_VALUE;
  private static final int[] NO_FAMILY = {-1, 3, 23, 24, MIN, MAX};

  /** Families 0 to 2 are there. */
  private static MeetHouse house() {
    return Houses.furnished();
  }

  private static MeetHouse sixteen() {
    return Houses.equal(16);
  }

  /** Eight QUORUMS that have keeper 0, and fifteen of others. */
  private static MeetHouse eightByFifteen() {
    return Houses.ofFamilies(16, Houses.sets(3, 5, 9, 17, 33, 65, 129, 257), Houses.pairs(9, 6));
  }

  /** As above, and one QUORUM more that hasn't keeper 0. */
  private static MeetHouse eightByFifteenAndOne() {
    return Houses.ofFamilies(16, Houses.sets(3, 5, 9, 17, 33, 65, 129, 257, 510), Houses.pairs(9, 6));
  }

  // ---- 12: join

  static void promise12_join_each_quorum_that_has_the_keeper_takes_each_of_the_other() {
    MeetHouse x = sixteen();
    int f = x.most(7);
    Houses.quorums("by 2", x, x.join(f, 2, x.most(56)), 6, 3, 25, 26, 41, 42, 49, 50);
  }

  static void promise12_join_by_a_keeper_of_no_quorum_is_as_it_was() {
    MeetHouse x = sixteen();
    int f = x.most(7);
    Houses.quorums("by 15", x, x.join(f, 15, x.most(56)), 6, 3, 5, 6);
  }

  static void promise12_join_of_a_quorum_of_the_keeper_alone() {
    MeetHouse x = sixteen();
    int f = Houses.told(x, 1, 32768);
    Houses.quorums("by 15", x, x.join(f, 15, Houses.told(x, 6, 40)), 6, 1, 6, 40);
  }

  static void promise12_join_with_itself() {
    MeetHouse x = sixteen();
    int f = x.most(7);
    Houses.quorums("by 2", x, x.join(f, 2, f), 6, 3, 5, 6);
  }

  static void promise12_join_the_keeper_may_come_back_with_the_other() {
    MeetHouse x = sixteen();
    int f = Houses.told(x, 3);
    Houses.quorums("by 0", x, x.join(f, 0, Houses.told(x, 5)), 6, 7);
  }

  static void promise12_join_keeps_the_least_alone() {
    MeetHouse x = sixteen();
    int f = x.most(7);
    Houses.quorums("by 2", x, x.join(f, 2, Houses.told(x, 1)), 6, 1);
  }

  static void promise12_join_of_120_quorums_is_made() {
    MeetHouse x = eightByFifteen();
    Due.accepted(x, "join(0, 0, 1)", 2, h -> h.join(0, 0, 1));
    Due.is("quorums", x.family(2, 1), 120);
  }

  static void promise12_join_of_121_quorums_refused_3() {
    Due.refused(3, MadeOfOthersTest::eightByFifteenAndOne, h -> h.join(0, 0, 1));
  }

  static void promise12_join_behind_one_that_was_many() {
    MeetHouse x = eightByFifteenAndOne();
    Due.is("many", x.join(0, 0, 1), -1);
    Houses.quorums("by 15", x, x.join(0, 15, 1), 6, 3, 5, 9, 17, 33, 65, 129, 257, 510);
  }

  static void promise12_join_no_such_first_family_refused_1() {
    for (int f : NO_FAMILY) Due.refused(1, MadeOfOthersTest::house, h -> h.join(f, 0, 0));
  }

  static void promise12_join_no_such_other_family_refused_1() {
    for (int g : NO_FAMILY) Due.refused(1, MadeOfOthersTest::house, h -> h.join(0, 0, g));
  }

  static void promise12_join_no_such_keeper_refused_1() {
    for (int k : new int[] {-1, 7, 16, MIN, MAX}) Due.refused(1, MadeOfOthersTest::house, h -> h.join(0, k, 1));
  }

  static void promise12_join_no_room_refused_4() {
    Due.refused(4, Houses::full, h -> h.join(0, 0, 1));
  }

  static void promise12_join_none_such_goes_ahead_of_no_room_refused_1() {
    Due.refused(1, Houses::full, h -> h.join(24, 0, 1));
    Due.refused(1, Houses::full, h -> h.join(0, 7, 1));
    Due.refused(1, Houses::full, h -> h.join(0, 0, 24));
  }

  static void promise12_join_no_room_goes_ahead_of_many_refused_4() {
    Due.refused(4, () -> Houses.filled(eightByFifteenAndOne()), h -> h.join(0, 0, 1));
  }

  // ---- 13: dual

  static void promise13_dual_least_sets_that_meet_each() {
    MeetHouse x = sixteen();
    Houses.quorums("of 3 12", x, x.dual(Houses.told(x, 3, 12)), 7, 5, 6, 9, 10);
  }

  static void promise13_dual_of_one_quorum_is_each_of_its_keepers() {
    MeetHouse x = sixteen();
    Houses.quorums("of 32769", x, x.dual(Houses.told(x, 32769)), 7, 1, 32768);
    Houses.quorums("of all sixteen", x, x.dual(Houses.told(x, 65535)), 7, Houses.ones(0, 16));
  }

  static void promise13_dual_of_single_keepers_is_all_of_them() {
    MeetHouse x = sixteen();
    Houses.quorums("of three", x, x.dual(Houses.told(x, 1, 2, 32768)), 7, 32771);
    Houses.quorums("of all sixteen", x, x.dual(Houses.told(x, Houses.ones(0, 16))), 7, 65535);
  }

  static void promise13_dual_of_one_keeper_is_itself() {
    MeetHouse x = Houses.equal(1);
    Houses.quorums("of 1", x, x.dual(Houses.told(x, 1)), 7, 1);
  }

  static void promise13_dual_of_a_majority_is_itself() {
    MeetHouse x = sixteen();
    Houses.quorums("of most(7)", x, x.dual(x.most(7)), 7, 3, 5, 6);
  }

  static void promise13_dual_twice_is_itself() {
    MeetHouse x = sixteen();
    Houses.quorums("of a grid", x, x.dual(x.dual(x.grid(2, 2, 0))), 7, 7, 11, 12);
  }

  static void promise13_dual_of_all_pairs_misses_one() {
    MeetHouse x = sixteen();
    int[] due = new int[16];
    for (int k = 0; k < 16; k++) due[15 - k] = 65535 - (1 << k);
    Houses.quorums("of 120 pairs", x, x.dual(Houses.told(x, Houses.pairs(0, 16))), 7, due);
  }

  static void promise13_dual_of_an_older_family() {
    MeetHouse x = Houses.ofFamilies(16, Houses.sets(3, 12), Houses.sets(1, 16, 32768));
    Houses.quorums("of 3 12", x, x.dual(0), 7, 5, 6, 9, 10);
    Houses.quorums("of 3 12 again", x, x.dual(0), 7, 5, 6, 9, 10);
  }

  static void promise13_dual_among_any_number_of_keepers() {
    for (int n = 4; n <= 16; n++) {
      MeetHouse x = Houses.equal(n);
      int last = 1 << n - 1;
      Houses.quorums("among " + n, x, x.dual(Houses.told(x, 3, 4 + last)), 7, 5, 6, 1 + last, 2 + last);
    }
  }

  /** Blocks of 2, 3, 4 and 5 keepers: what meets them has one of each. */
  private static MeetHouse blocks() {
    return Houses.ofFamilies(16, Houses.sets(3, 7 << 2, 15 << 5, 31 << 9));
  }

  /** The dual is one of each block, and beside these the set of the first two blocks and keeper 14. */
  private static MeetHouse blocksAndOne() {
    List<Integer> sets = new ArrayList<>(List.of(3, 7 << 2));
    for (int k : new int[] {0, 1, 2, 3, 4, 14}) {
      sets.add(15 << 5 | 1 << k);
      sets.add(31 << 9 | 1 << k);
    }
    return Houses.ofFamilies(16, sets.stream().mapToInt(Integer::intValue).toArray());
  }

  static void promise13_dual_of_120_quorums_is_made() {
    MeetHouse x = blocks();
    Due.accepted(x, "dual(0)", 1, h -> h.dual(0));
    Due.is("quorums", x.family(1, 1), 120);
  }

  static void promise13_dual_of_121_quorums_refused_3() {
    Due.refused(3, MadeOfOthersTest::blocksAndOne, h -> h.dual(0));
  }

  static void promise13_dual_behind_one_that_was_many() {
    MeetHouse x = blocksAndOne();
    Due.is("many", x.dual(0), -1);
    Houses.quorums("of 3 12", x, x.dual(Houses.told(x, 3, 12)), 7, 5, 6, 9, 10);
  }

  static void promise13_dual_no_such_family_refused_1() {
    for (int f : NO_FAMILY) Due.refused(1, MadeOfOthersTest::house, h -> h.dual(f));
  }

  static void promise13_dual_no_room_refused_4() {
    Due.refused(4, Houses::full, h -> h.dual(0));
  }

  static void promise13_dual_none_such_goes_ahead_of_no_room_refused_1() {
    Due.refused(1, Houses::full, h -> h.dual(24));
  }

  static void promise13_dual_no_room_goes_ahead_of_many_refused_4() {
    Due.refused(4, () -> Houses.filled(blocksAndOne()), h -> h.dual(0));
  }

  // ---- 14: thin

  static void promise14_thin_quorums_within_the_set() {
    MeetHouse x = Houses.equal(5);
    Houses.quorums("to four", x, x.thin(x.most(31), 15), 8, 7, 11, 13, 14);
  }

  static void promise14_thin_to_exactly_one_quorum() {
    MeetHouse x = house();
    Houses.quorums("to the first", x, x.thin(0, 5), 8, 5);
    Houses.quorums("to the last", x, x.thin(0, 12), 8, 12);
  }

  static void promise14_thin_to_all_is_as_it_was() {
    MeetHouse x = house();
    Houses.quorums("to 127", x, x.thin(0, 127), 8, 5, 6, 11, 12);
  }

  static void promise14_thin_bits_of_no_keepers_are_no_matter() {
    MeetHouse x = house();
    Houses.quorums("to all bits", x, x.thin(0, -1), 8, 5, 6, 11, 12);
    Houses.quorums("to 5 and beyond", x, x.thin(0, -128 | 5), 8, 5);
  }

  static void promise14_thin_no_quorum_is_within_refused_5() {
    for (int s : new int[] {3, 4, 8, 10, -128, MIN}) Due.refused(5, MadeOfOthersTest::house, h -> h.thin(0, s));
  }

  static void promise14_thin_to_the_empty_set_refused_5() {
    Due.refused(5, MadeOfOthersTest::house, h -> h.thin(0, 0));
  }

  static void promise14_thin_no_such_family_refused_1() {
    for (int f : NO_FAMILY) Due.refused(1, MadeOfOthersTest::house, h -> h.thin(f, 127));
  }

  static void promise14_thin_no_room_refused_4() {
    Due.refused(4, Houses::full, h -> h.thin(0, 127));
  }

  static void promise14_thin_none_such_goes_ahead_of_no_room_refused_1() {
    Due.refused(1, Houses::full, h -> h.thin(24, 0));
  }

  static void promise14_thin_no_room_goes_ahead_of_no_set_refused_4() {
    Due.refused(4, Houses::full, h -> h.thin(0, 0));
  }

  // ---- 15: both

  private static MeetHouse eightOnesByFifteen() {
    return Houses.ofFamilies(16, Houses.ones(0, 8), Houses.pairs(8, 6));
  }

  /** One QUORUM more that holds the first pair: with that it brings one set, and the others are no less. */
  private static MeetHouse eightOnesByFifteenAndOne() {
    return Houses.ofFamilies(16, Houses.sets(1, 2, 4, 8, 16, 32, 64, 128, 768 | 16384), Houses.pairs(8, 6));
  }

  static void promise15_both_of_families_apart() {
    MeetHouse x = sixteen();
    int f = x.most(7);
    Houses.quorums("both", x, x.both(f, x.most(56)), 9, 27, 29, 30, 43, 45, 46, 51, 53, 54);
  }

  static void promise15_both_with_itself_is_itself() {
    MeetHouse x = sixteen();
    int f = x.most(7);
    Houses.quorums("both", x, x.both(f, f), 9, 3, 5, 6);
  }

  static void promise15_both_keeps_the_least_alone() {
    MeetHouse x = sixteen();
    int f = x.most(7);
    Houses.quorums("with 1", x, x.both(f, Houses.told(x, 1)), 9, 3, 5);
  }

  static void promise15_both_of_one_quorum_each() {
    MeetHouse x = sixteen();
    Houses.quorums("1 and 32768", x, x.both(Houses.told(x, 1), Houses.told(x, 32768)), 9, 32769);
  }

  static void promise15_both_in_either_order() {
    MeetHouse x = house();
    Houses.quorums("0 2", x, x.both(0, 2), 9, 5, 6, 11);
    Houses.quorums("2 0", x, x.both(2, 0), 9, 5, 6, 11);
  }

  static void promise15_both_of_120_quorums_is_made() {
    MeetHouse x = eightOnesByFifteen();
    Due.accepted(x, "both(0, 1)", 2, h -> h.both(0, 1));
    Due.is("quorums", x.family(2, 1), 120);
  }

  static void promise15_both_of_121_quorums_refused_3() {
    Due.refused(3, MadeOfOthersTest::eightOnesByFifteenAndOne, h -> h.both(0, 1));
    Due.refused(3, MadeOfOthersTest::eightOnesByFifteenAndOne, h -> h.both(1, 0));
  }

  static void promise15_both_behind_one_that_was_many() {
    MeetHouse x = eightOnesByFifteenAndOne();
    Due.is("many", x.both(0, 1), -1);
    Houses.quorums("1 and 32768", x, x.both(Houses.told(x, 1), Houses.told(x, 32768)), 9, 32769);
  }

  static void promise15_both_no_such_first_family_refused_1() {
    for (int f : NO_FAMILY) Due.refused(1, MadeOfOthersTest::house, h -> h.both(f, 0));
  }

  static void promise15_both_no_such_other_family_refused_1() {
    for (int g : NO_FAMILY) Due.refused(1, MadeOfOthersTest::house, h -> h.both(0, g));
  }

  static void promise15_both_no_room_refused_4() {
    Due.refused(4, Houses::full, h -> h.both(0, 1));
  }

  static void promise15_both_none_such_goes_ahead_of_no_room_refused_1() {
    Due.refused(1, Houses::full, h -> h.both(24, 0));
    Due.refused(1, Houses::full, h -> h.both(0, 24));
  }

  static void promise15_both_no_room_goes_ahead_of_many_refused_4() {
    Due.refused(4, () -> Houses.filled(eightOnesByFifteenAndOne()), h -> h.both(0, 1));
  }

  // ---- 16: better

  static void promise16_better_of_one_keeper_is_itself() {
    MeetHouse x = sixteen();
    Houses.quorums("of 1", x, x.better(Houses.told(x, 1)), 10, 1);
    Houses.quorums("of the last", x, x.better(Houses.told(x, 32768)), 10, 32768);
  }

  static void promise16_better_of_one_quorum_the_least_number_comes() {
    MeetHouse x = sixteen();
    Houses.quorums("of 3", x, x.better(Houses.told(x, 3)), 10, 1);
    Houses.quorums("of all sixteen", x, x.better(Houses.told(x, 65535)), 10, 1);
    Houses.quorums("of 49152", x, x.better(Houses.told(x, 49152)), 10, 16384);
  }

  static void promise16_better_sets_come_by_their_numbers_beside_those_that_came() {
    MeetHouse x = sixteen();
    Houses.quorums("three of four", x, x.better(Houses.told(x, 7, 11, 13, 14)), 10, 3, 5, 6);
    Houses.quorums("a grid: 5 comes, then 6; 7 has 5", x, x.better(x.grid(2, 2, 0)), 10, 5, 6, 11, 12);
  }

  static void promise16_better_of_what_none_is_better_than_is_itself() {
    MeetHouse x = sixteen();
    Houses.quorums("most of three", x, x.better(x.most(7)), 10, 3, 5, 6);
    Houses.quorums("a plane", x, x.better(x.plane(2, 0)), 10, 11, 22, 44, 49, 69, 88, 98);
  }

  static void promise16_better_within_its_own_keepers_alone() {
    MeetHouse x = sixteen();
    Houses.quorums("64 128 32768", x, x.better(Houses.told(x, 32832, 32896)), 10, 192, 32832, 32896);
  }

  static void promise16_better_within_its_own_keepers_with_gaps() {
    MeetHouse x = sixteen();
    Houses.quorums("1 4 16", x, x.better(Houses.told(x, 17, 20)), 10, 5, 17, 20);
    Houses.quorums("2 32 128", x, x.better(Houses.told(x, 162)), 10, 2);
    Houses.quorums("8 256 1024 16384", x, x.better(Houses.told(x, 1288, 16648, 17408)), 10, 1032, 1280, 16648, 17408);
  }

  static void promise16_better_of_an_older_family() {
    MeetHouse x = Houses.ofFamilies(16, Houses.sets(17, 20), Houses.sets(1, 2, 4));
    Houses.quorums("1 4 16", x, x.better(0), 10, 5, 17, 20);
  }

  static void promise16_better_is_its_own_dual() {
    isItsOwnDual(Houses.equal(9), 3);
    isItsOwnDual(Houses.equal(12), 12);
    isItsOwnDual(Houses.equal(15), 15);
  }

  /** Of what can't be bettered the sets that meet it are those that it has. */
  private static void isItsOwnDual(MeetHouse x, int last) {
    int f = last == 3 ? x.grid(3, 3, 0) : x.tree(3, last - 7);
    if (last == 15) f = x.join(f, 14, x.plane(2, 0));
    int b = x.better(f);
    int d = x.dual(b);
    Due.is("it was made", b >= 0 && d >= 0, true);
    Due.is("as many", x.family(b, 1), x.family(d, 1));
    for (int i = 0; i < x.family(b, 1); i++) Due.is("quorum " + i, x.quorum(b, i), x.quorum(d, i));
    for (int i = 0; i < x.family(f, 1); i++) Due.is("still enough", x.has(b, x.quorum(f, i)), 1);
  }

  /** The QUORUMS of a majority without a tie, by their numbers. */
  private static List<Integer> majority(int... strengths) {
    int whole = 0;
    for (int s : strengths) whole += s;
    List<Integer> sets = new ArrayList<>();
    for (int set = 1; set < 1 << strengths.length; set++) {
      int sum = 0;
      int weakest = 100;
      for (int k = 0; k < strengths.length; k++) {
        if ((set >> k & 1) == 0) continue;
        sum += strengths[k];
        weakest = Math.min(weakest, strengths[k]);
      }
      if (2 * sum > whole && 2 * (sum - weakest) < whole) sets.add(set);
    }
    return sets;
  }

  /** Of a majority only the QUORUMS that have the last keeper, the strongest, are told: the others come. */
  private static MeetHouse halfTold(int... strengths) {
    MeetHouse x = Houses.ofStrengths(strengths);
    for (int set : majority(strengths)) if (set >> strengths.length - 1 == 1) x.list(set);
    x.told();
    return x;
  }

  static void promise16_better_of_120_quorums_is_made() {
    int[] strengths = {1, 2, 2, 2, 3, 3, 3, 4, 4, 5};
    List<Integer> due = majority(strengths);
    MeetHouse x = halfTold(strengths);
    Due.is("of the majority", due.size(), 120);
    Due.accepted(x, "better(0)", 1, h -> h.better(0));
    Due.is("quorums", x.family(1, 1), 120);
    for (int i = 0; i < 120; i++) Due.is("quorum " + i, x.quorum(1, i), due.get(i));
  }

  static void promise16_better_of_121_quorums_refused_3() {
    int[] strengths = {3, 3, 3, 3, 3, 4, 4, 4, 4};
    Due.is("of the majority", majority(strengths).size(), 121);
    Due.refused(3, () -> halfTold(strengths), h -> h.better(0));
  }

  static void promise16_better_of_far_too_many_refused_3() {
    Due.refused(3, MadeOfOthersTest::gridAndSplit, h -> h.better(0));
  }

  /** A grid of which better is MANY, and a family of two that don't meet. */
  private static MeetHouse gridAndSplit() {
    MeetHouse x = sixteen();
    x.grid(4, 4, 0);
    Houses.told(x, 1, 2);
    return x;
  }

  static void promise16_better_behind_one_that_was_many() {
    MeetHouse x = gridAndSplit();
    Due.is("many", x.better(0), -1);
    Houses.quorums("of 17 20", x, x.better(Houses.told(x, 17, 20)), 10, 5, 17, 20);
  }

  static void promise16_better_two_do_not_meet_refused_7() {
    Due.refused(7, MadeOfOthersTest::house, h -> h.better(2));
    Due.refused(7, () -> Houses.ofFamilies(6, Houses.sets(7, 11, 56)), h -> h.better(0));
    Due.refused(7, () -> Houses.ofFamilies(6, Houses.sets(3, 5, 26, 38)), h -> h.better(0));
  }

  static void promise16_better_no_such_family_refused_1() {
    for (int f : NO_FAMILY) Due.refused(1, MadeOfOthersTest::house, h -> h.better(f));
  }

  static void promise16_better_no_room_refused_4() {
    Due.refused(4, Houses::full, h -> h.better(0));
  }

  static void promise16_better_none_such_goes_ahead_of_no_room_refused_1() {
    Due.refused(1, Houses::full, h -> h.better(24));
  }

  static void promise16_better_two_that_do_not_meet_go_ahead_of_no_room_refused_7() {
    Due.refused(7, Houses::full, h -> h.better(2));
  }

  static void promise16_better_no_room_goes_ahead_of_many_refused_4() {
    Due.refused(4, () -> Houses.filled(gridAndSplit()), h -> h.better(0));
  }

  public static void main(String[] args) {
    Cases.run(MadeOfOthersTest.class, args);
  }
}
