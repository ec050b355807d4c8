/** Promises 33 to 36. */
public final class WitnessesTest {
  private static final int MIN = Integer.MIN_VALUE;
  private static final int MAX = Integer.MAX_VALUE;
  private static final int[] NO_FAMILY = {-1, 3, 23, 24, MIN, MAX};
  private static final int[] NO_PAIR = {-1, 21, 7139, 7140, MIN, MAX};

  /** THE SHEET has the 21 pairs of a plane, the fourth of them forged. */
  private static MeetHouse house() {
    return Houses.furnished();
  }

  /** Most of three, whose pairs name 0, 1 and 2, and no SHEET. */
  private static MeetHouse noSheet() {
    MeetHouse x = Houses.equal(6);
    x.most(7);
    return x;
  }

  private static MeetHouse sheet() {
    MeetHouse x = noSheet();
    x.witness(0);
    return x;
  }

  private static void namesAre(MeetHouse x, int... due) {
    Due.is("how many", x.size(4), due.length);
    for (int k = 0; k < due.length; k++) Due.is("pair " + k, x.names(k), due[k]);
    Due.is("behind the last", x.names(due.length), -2);
  }

  // ---- 33: witness

  static void promise33_witness_pairs_by_i_then_j() {
    MeetHouse x = Houses.ofFamilies(6, Houses.sets(3, 6, 12, 40));
    Due.accepted(x, "six pairs", 6, h -> h.witness(0));
    namesAre(x, 1, -1, -1, 2, -1, 3);
  }

  static void promise33_witness_least_keeper_of_both() {
    MeetHouse x = Houses.ofFamilies(6, Houses.sets(62, 61, 55));
    Due.accepted(x, "three pairs", 3, h -> h.witness(0));
    namesAre(x, 0, 1, 2);
  }

  static void promise33_witness_names_keeper_15() {
    MeetHouse x = Houses.ofFamilies(16, Houses.sets(32769, 32770));
    Due.accepted(x, "a pair", 1, h -> h.witness(0));
    namesAre(x, 15);
  }

  static void promise33_witness_of_two_that_do_not_meet_is_below_0() {
    MeetHouse x = house();
    Due.accepted(x, "a pair", 1, h -> h.witness(2));
    namesAre(x, -1);
  }

  static void promise33_witness_of_one_quorum_has_no_pair() {
    MeetHouse x = Houses.ofFamilies(3, Houses.sets(3, 5), Houses.sets(7));
    x.witness(0);
    Due.accepted(x, "no pair", 0, h -> h.witness(1));
    namesAre(x);
  }

  static void promise33_witness_of_120_quorums_has_7140_pairs() {
    MeetHouse x = Houses.ofFamilies(16, Houses.pairs(0, 16));
    Due.accepted(x, "pairs", 7140, h -> h.witness(0));
    Due.is("size", x.size(4), 7140);
    Due.is("3 and 5", x.names(0), 0);
    Due.is("3 and 6", x.names(1), 1);
    Due.is("3 and 49152", x.names(118), -1);
    Due.is("the last", x.names(7139), 15);
    Due.is("behind the last", x.names(7140), -2);
  }

  static void promise33_witness_again_is_true_again() {
    MeetHouse x = house();
    Due.accepted(x, "pairs", 21, h -> h.witness(1));
    Due.accepted(x, "judged", -2, h -> h.judge(1));
  }

  static void promise33_witness_is_no_act() {
    MeetHouse x = noSheet();
    x.witness(0);
    Due.is("acts", x.size(3), 7);
  }

  static void promise33_witness_no_such_family_refused_1() {
    for (int f : NO_FAMILY) Due.refused(1, WitnessesTest::house, h -> h.witness(f));
    Due.refused(1, Houses::full, h -> h.witness(24));
  }

  // ---- 34: names

  static void promise34_names_first_and_last() {
    MeetHouse x = sheet();
    namesAre(x, 0, 1, 2);
  }

  static void promise34_names_no_such_pair_is_below_0() {
    MeetHouse x = house();
    for (int k : NO_PAIR) Due.is("names " + k, x.names(k), -2);
  }

  static void promise34_names_no_sheet_is_below_0() {
    Due.is("names", noSheet().names(0), -2);
  }

  static void promise34_names_leaves_the_status() {
    MeetHouse x = sheet();
    x.keeper(0, 0);
    x.names(0);
    x.names(99);
    Due.is("of keeper()", x.status(), 2);
  }

  // ---- 35: forge

  static void promise35_forge_by_xor() {
    MeetHouse x = sheet();
    Due.acceptedTrue(x, "forge(1, 2)", h -> h.forge(1, 2));
    namesAre(x, 0, 3, 2);
  }

  static void promise35_forge_twice_is_as_it_was() {
    MeetHouse x = sheet();
    x.forge(2, 12345);
    Due.acceptedTrue(x, "forge(2, 12345)", h -> h.forge(2, 12345));
    namesAre(x, 0, 1, 2);
  }

  static void promise35_forge_by_0_is_as_it_was() {
    MeetHouse x = sheet();
    Due.acceptedTrue(x, "forge(1, 0)", h -> h.forge(1, 0));
    namesAre(x, 0, 1, 2);
  }

  static void promise35_forge_by_all_bits() {
    MeetHouse x = sheet();
    Due.acceptedTrue(x, "forge(1, -1)", h -> h.forge(1, -1));
    namesAre(x, 0, -2, 2);
    x.forge(1, MAX);
    namesAre(x, 0, -2147483647, 2);
  }

  static void promise35_forge_a_pair_that_did_not_meet() {
    MeetHouse x = house();
    x.witness(2);
    Due.acceptedTrue(x, "forge(0, -1)", h -> h.forge(0, -1));
    namesAre(x, 0);
  }

  static void promise35_forge_last_of_7140() {
    MeetHouse x = Houses.ofFamilies(16, Houses.pairs(0, 16));
    x.witness(0);
    Due.acceptedTrue(x, "forge(7139, 1)", h -> h.forge(7139, 1));
    Due.is("forged", x.names(7139), 14);
    Due.is("the one before stays", x.names(7138), 15);
  }

  static void promise35_forge_is_no_act() {
    MeetHouse x = sheet();
    x.forge(0, 1);
    Due.is("acts", x.size(3), 7);
  }

  static void promise35_forge_no_such_pair_refused_1() {
    for (int k : NO_PAIR) Due.refusedFalse(1, WitnessesTest::house, h -> h.forge(k, 1));
  }

  static void promise35_forge_no_sheet_refused_1() {
    Due.refusedFalse(1, WitnessesTest::noSheet, h -> h.forge(0, 1));
  }

  // ---- 36: judge

  static void promise36_judge_each_pair_is_true() {
    Due.accepted(sheet(), "judge", -2, h -> h.judge(0));
  }

  static void promise36_judge_another_keeper_of_both_is_true() {
    MeetHouse x = Houses.ofFamilies(5, Houses.sets(7, 11, 19));
    x.witness(0);
    x.forge(0, 1);
    Due.is("names 1, not 0", x.names(0), 1);
    Due.accepted(x, "judge", -2, h -> h.judge(0));
  }

  static void promise36_judge_the_first_that_is_forged() {
    MeetHouse x = sheet();
    x.forge(2, 3);
    Due.accepted(x, "2 names 1", 2, h -> h.judge(0));
    x.forge(1, 3);
    Due.accepted(x, "1 names 2", 1, h -> h.judge(0));
    x.forge(0, 2);
    Due.accepted(x, "0 names 2", 0, h -> h.judge(0));
  }

  static void promise36_judge_a_keeper_of_one_of_both_alone() {
    MeetHouse x = sheet();
    x.forge(0, 1);
    Due.is("3 and 5: 1 is of 3 alone", x.names(0), 1);
    Due.accepted(x, "judge", 0, h -> h.judge(0));
  }

  static void promise36_judge_what_is_no_keeper() {
    for (int mask : new int[] {4, 16, 32, 64, 1 << 16, -1, MIN, MAX}) {
      MeetHouse x = sheet();
      x.forge(1, mask);
      Due.accepted(x, "forged by " + mask, 1, h -> h.judge(0));
    }
  }

  static void promise36_judge_two_that_do_not_meet_can_not_be_true() {
    MeetHouse x = house();
    x.witness(2);
    Due.accepted(x, "as witnessed", 0, h -> h.judge(2));
    x.forge(0, -1);
    Due.accepted(x, "forged to 0", 0, h -> h.judge(2));
  }

  static void promise36_judge_beside_another_family_of_as_many_pairs() {
    MeetHouse x = sheet();
    x.most(56);
    Due.accepted(x, "of other keepers", 0, h -> h.judge(1));
    Houses.told(x, 3, 13, 22);
    Due.accepted(x, "3 13, 3 22 and 13 22 by 0 1 2", -2, h -> h.judge(2));
  }

  static void promise36_judge_not_as_many_pairs() {
    MeetHouse x = sheet();
    Houses.told(x, 1);
    Houses.told(x, 3, 5);
    Houses.told(x, 3, 5, 9, 17);
    for (int f = 1; f < 4; f++) {
      int family = f;
      Due.accepted(x, "judge " + f, -3, h -> h.judge(family));
    }
  }

  static void promise36_judge_not_as_many_goes_ahead_of_a_forged_pair() {
    MeetHouse x = house();
    Due.accepted(x, "of a plane beside four quorums", -3, h -> h.judge(0));
  }

  static void promise36_judge_no_sheet_has_no_pairs() {
    MeetHouse x = noSheet();
    Houses.told(x, 1);
    Due.accepted(x, "beside three pairs", -3, h -> h.judge(0));
    Due.accepted(x, "beside none", -2, h -> h.judge(1));
  }

  static void promise36_judge_of_7140_pairs() {
    MeetHouse x = Houses.ofFamilies(16, Houses.pairs(0, 16));
    x.witness(0);
    Due.accepted(x, "3 and 12 don't meet", 4, h -> h.judge(0));
    MeetHouse y = Houses.equal(16);
    for (int set : Houses.pairs(1, 15)) y.list(set | 1);
    y.told();
    Due.accepted(y, "pairs", 5460, h -> h.witness(0));
    Due.accepted(y, "all have 0", -2, h -> h.judge(0));
    y.forge(5459, 2);
    Due.accepted(y, "the last is forged", 5459, h -> h.judge(0));
  }

  static void promise36_judge_no_such_family_refused_1() {
    for (int f : NO_FAMILY) Due.refused(1, WitnessesTest::house, h -> h.judge(f));
    Due.refused(1, Houses::full, h -> h.judge(24));
  }

  public static void main(String[] args) {
    Cases.run(WitnessesTest.class, args);
  }
}
