import java.util.function.Consumer;

/** Promise 42. */
public final class UndoTest {
  private static MeetHouse house() {
    return Houses.furnished();
  }

  /** An act is taken back: all that can be seen is as it was before it. */
  private static void goesBack(Consumer<MeetHouse> act) {
    MeetHouse x = house();
    int acts = x.size(3);
    act.accept(x);
    Due.is("an act came", x.size(3), acts + 1);
    Due.is("it changed something", Look.at(x).equals(Look.at(house())), false);
    MeetHouse y = house();
    act.accept(y);
    Due.is("undo", y.undo(), 1);
    Due.is("as it was: " + Look.at(y), Look.at(y).equals(Look.at(house())), true);
  }

  /** The same for an act that empties THE LIST. */
  private static void goesBackWithoutTheList(Consumer<MeetHouse> act) {
    MeetHouse x = house();
    act.accept(x);
    Due.is("undo", x.undo(), 1);
    Due.is("the list is empty", x.size(2), 0);
    x.list(3);
    Due.is("else as it was: " + Look.at(x), Look.at(x).equals(Look.at(house())), true);
  }

  // ---- nothing to take back

  static void promise42_undo_of_a_new_object_is_0() {
    MeetHouse x = new MeetHouse();
    Due.is("undo", x.undo(), 0);
    Due.is("again", x.undo(), 0);
    Due.is("acts", x.size(3), 0);
  }

  static void promise42_undo_is_0_behind_the_first_act() {
    MeetHouse x = Houses.equal(2);
    Due.is("the second", x.undo(), 1);
    Due.is("the first", x.undo(), 1);
    Due.is("none", x.undo(), 0);
    Due.is("keepers", x.size(0), 0);
    Due.is("acts go on", x.keeper(9, 8), 0);
    Due.is("one", x.size(3), 1);
    Due.is("with its strength", x.keeperOf(0, 0), 9);
  }

  static void promise42_undo_the_latest_goes_first() {
    MeetHouse x = Houses.equal(2);
    x.tenths(1, 9);
    x.weight(0, 7);
    x.tenths(1, 3);
    x.undo();
    Due.is("tenths 9", x.keeperOf(1, 1), 9);
    Due.is("weight 7", x.keeperOf(0, 2), 7);
    x.undo();
    Due.is("weight 0", x.keeperOf(0, 2), 0);
    Due.is("tenths still 9", x.keeperOf(1, 1), 9);
    x.undo();
    Due.is("tenths 5", x.keeperOf(1, 1), 5);
  }

  static void promise42_undo_is_no_act_itself() {
    MeetHouse x = Houses.equal(3);
    x.undo();
    Due.is("acts", x.size(3), 2);
    x.undo();
    Due.is("keepers", x.size(0), 1);
  }

  static void promise42_undo_back_to_the_beginning() {
    MeetHouse x = house();
    int acts = x.size(3);
    for (int i = acts; i > 0; i--) {
      Due.is("acts", x.size(3), i);
      Due.is("undo", x.undo(), 1);
    }
    Due.is("none is left", x.undo(), 0);
    for (int w = 0; w < 4; w++) Due.is("size " + w, x.size(w), 0);
    Due.is("no plan", x.load(0), -1);
    for (int k = 0; k < 16; k++) Due.is("lies " + k, x.lies(k), 0);
  }

  // ---- keeper and tenths

  static void promise42_undo_keeper() {
    goesBackWithoutTheList(h -> h.keeper(9, 9));
  }

  static void promise42_undo_keeper_empties_the_list() {
    MeetHouse x = Houses.equal(2);
    x.list(1);
    x.list(3);
    Due.is("undo", x.undo(), 1);
    Due.is("keeper 1 is gone", x.keeperOf(1, 0), -1);
    Due.is("the list", x.size(2), 0);
    Due.is("nothing to tell", x.told(), -1);
  }

  static void promise42_undo_keeper_the_next_one_has_weight_0() {
    MeetHouse x = Houses.equal(1);
    x.weight(0, 5);
    x.undo();
    x.undo();
    x.keeper(1, 1);
    Due.is("weight", x.keeperOf(0, 2), 0);
  }

  /** Of keepers and families that are gone nothing is left in what is made among fewer keepers. */
  static void promise42_undo_keepers_then_families_among_fewer() {
    MeetHouse x = Houses.equal(16);
    x.even(x.dual(Houses.told(x, 49152, 3)));
    x.chance(0);
    for (int i = 0; i < 16; i++) x.undo();
    Due.is("keepers", x.size(0), 3);
    Due.is("a set of one that is gone", x.list(8), -1);
    Houses.quorums("dual", x, x.dual(Houses.told(x, 3, 4)), 7, 5, 6);
    Due.is("hit", x.hit(0), 5);
    Due.is("chance", x.chance(0), 6250000000000000L);
    x.even(0);
    Due.is("load", x.load(1) * 10 + x.load(2), 12);
    Due.is("of no such keeper", x.loadOf(3, false), -1);
  }

  static void promise42_undo_tenths() {
    goesBack(h -> h.tenths(3, 0));
    goesBack(h -> h.tenths(6, 10));
  }

  static void promise42_undo_other_acts_leave_the_list() {
    MeetHouse x = house();
    x.tenths(3, 0);
    x.most(7);
    x.undo();
    x.undo();
    Due.is("the list", x.size(2), 1);
  }

  // ---- the eleven families

  static void promise42_undo_told_leaves_the_list_empty() {
    goesBackWithoutTheList(MeetHouse::told);
  }

  static void promise42_undo_told_leaves_what_was_listed_since() {
    MeetHouse x = Houses.equal(3);
    x.list(3);
    x.told();
    x.list(5);
    x.undo();
    Due.is("the list", x.size(2), 1);
    x.told();
    Due.is("is told", x.quorum(0, 0), 5);
  }

  static void promise42_undo_most() {
    goesBack(h -> h.most(7));
  }

  static void promise42_undo_grid() {
    goesBack(h -> h.grid(2, 2, 0));
  }

  static void promise42_undo_wall() {
    goesBack(h -> h.wall(0, 1, 2, 3, 0, 0));
  }

  static void promise42_undo_tree() {
    goesBack(h -> h.tree(3, 0));
  }

  static void promise42_undo_plane() {
    goesBack(h -> h.plane(2, 0));
  }

  static void promise42_undo_join() {
    goesBack(h -> h.join(0, 1, 1));
  }

  static void promise42_undo_dual() {
    goesBack(h -> h.dual(2));
  }

  static void promise42_undo_thin() {
    goesBack(h -> h.thin(0, 7));
  }

  static void promise42_undo_both() {
    goesBack(h -> h.both(0, 2));
  }

  static void promise42_undo_better() {
    goesBack(h -> h.better(1));
  }

  static void promise42_undo_family_its_number_is_free_again() {
    MeetHouse x = Houses.filled(Houses.equal(3));
    x.undo();
    Due.is("families", x.size(1), 23);
    Due.is("it is gone", x.quorum(23, 0), -1);
    Due.is("another", x.most(7), 23);
    Due.is("its kind", x.family(23, 0), 1);
    Due.is("its quorums", x.family(23, 1), 3);
  }

  /** A smaller family stands where a greater one was taken back: nothing of that one is left. */
  static void promise42_undo_family_a_smaller_one_comes_there() {
    MeetHouse x = Houses.equal(5);
    Houses.told(x, 1, 2, 4, 8, 16);
    x.undo();
    int f = Houses.told(x, 24);
    Due.is("all keepers", x.family(f, 2), 24);
    Due.is("fewest", x.family(f, 3), 2);
    Due.is("has", x.has(f, 7), 0);
    Due.is("hit", x.hit(f), 8);
    Due.is("liars", x.liars(f, false), 1);
    Due.is("chance", x.chance(f), 2500000000000000L);
    Due.is("apart", x.apart(f, f), -2);
    x.undo();
    f = Houses.told(x, 24, 20);
    Due.is("shared", x.liars(f, false), 0);
    Due.is("fewest of two", x.family(f, 3), 2);
    Due.is("witness", x.witness(f), 1);
    Due.is("judge", x.judge(f), -2);
    x.undo();
    Houses.told(x, 3, 29);
    x.undo();
    f = Houses.told(x, 6);
    Due.is("the most", x.family(f, 4), 2);
    Due.is("the fewest", x.family(f, 3), 2);
  }

  // ---- weight, part, even, use

  static void promise42_undo_weight() {
    goesBack(h -> h.weight(2, 1000));
    goesBack(h -> h.weight(0, 1));
  }

  static void promise42_undo_part() {
    goesBack(h -> h.part(3, 0));
    goesBack(h -> h.part(0, 1000));
  }

  static void promise42_undo_even() {
    goesBack(h -> h.even(0));
    goesBack(h -> h.even(1));
    goesBack(h -> h.even(2));
  }

  static void promise42_undo_first_even_leaves_no_plan() {
    MeetHouse x = Houses.ofFamilies(3, Houses.sets(3, 5));
    x.even(0);
    Due.is("undo", x.undo(), 1);
    for (int w = 0; w < 4; w++) Due.is("load " + w, x.load(w), -1);
    Due.is("no part", x.partOf(0), -1);
    Due.is("none to lay", x.lay(0, 3, 0), -1);
  }

  static void promise42_undo_use() {
    goesBack(h -> h.use(3));
  }

  static void promise42_undo_use_then_part_of_the_plan_before() {
    MeetHouse x = house();
    x.part(1, 7);
    x.use(3);
    x.part(0, 6);
    x.undo();
    Due.is("part of the used one", x.partOf(0), 1);
    x.undo();
    Due.is("the plan before", x.partOf(1), 7);
    x.undo();
    Due.is("its part before", x.partOf(1), 20);
  }

  // ---- lay and copy

  static void promise42_undo_lay_over_nothing() {
    goesBack(h -> h.lay(15, 1, 0));
    goesBack(h -> h.lay(15, 2, 1));
    goesBack(h -> h.lay(15, 3, 0));
  }

  static void promise42_undo_lay_over_a_family() {
    goesBack(h -> h.lay(0, 0, 0));
    goesBack(h -> h.lay(0, 1, 2));
    goesBack(h -> h.lay(0, 3, 0));
  }

  static void promise42_undo_lay_over_a_set() {
    goesBack(h -> h.lay(1, 0, 0));
    goesBack(h -> h.lay(1, 2, 10));
    goesBack(h -> h.lay(1, 3, 0));
  }

  static void promise42_undo_lay_over_a_plan() {
    goesBack(h -> h.lay(3, 0, 0));
    goesBack(h -> h.lay(3, 1, 0));
    goesBack(h -> h.lay(3, 3, 0));
  }

  static void promise42_undo_copy() {
    goesBack(h -> h.copy(2, 0, 3, 0, 2));
    goesBack(h -> h.copy(2, 0, 2, 1, 3));
    goesBack(h -> h.copy(3, 1, 4, 0, 1));
  }

  static void promise42_undo_copy_then_lay() {
    MeetHouse x = house();
    x.copy(2, 2, 3, 0, 2);
    x.lay(3, 2, 5);
    x.undo();
    Due.is("as copied", x.taken(3, 3, 0), 30);
    x.undo();
    Due.is("as laid", x.taken(3, 3, 0), 1);
    Due.is("as laid, the last", x.taken(3, 3, 1), 5);
  }

  static void promise42_undo_acts_that_change_nothing_are_acts() {
    MeetHouse x = house();
    int acts = x.size(3);
    x.tenths(0, 5);
    x.weight(2, 8);
    x.part(0, 10);
    x.lay(5, 0, 0);
    x.copy(2, 0, 2, 0, 4);
    Due.is("acts", x.size(3), acts + 5);
    for (int i = 0; i < 5; i++) Due.is("undo", x.undo(), 1);
    Due.is("as it was", Look.at(x).equals(Look.at(house())), true);
  }

  // ---- of sixty

  /** A keeper, and then its weight becomes 1, 2, 3 .. */
  private static MeetHouse weights(int changes) {
    MeetHouse x = Houses.equal(1);
    for (int i = 1; i <= changes; i++) x.weight(0, i);
    return x;
  }

  static void promise42_undo_sixty_acts_are_all_taken_back() {
    MeetHouse x = weights(59);
    Due.is("acts", x.size(3), 60);
    for (int i = 0; i < 60; i++) Due.is("undo " + i, x.undo(), 1);
    Due.is("no more", x.undo(), 0);
    Due.is("the keeper, too", x.size(0), 0);
  }

  static void promise42_undo_of_sixty_one_acts_the_first_stays() {
    MeetHouse x = weights(60);
    Due.is("acts", x.size(3), 60);
    for (int i = 0; i < 60; i++) Due.is("undo " + i, x.undo(), 1);
    Due.is("no more", x.undo(), 0);
    Due.is("the keeper stays", x.size(0), 1);
    Due.is("its weight", x.keeperOf(0, 2), 0);
  }

  static void promise42_undo_goes_round_more_than_twice() {
    MeetHouse x = weights(150);
    for (int i = 0; i < 60; i++) {
      Due.is("weight", x.keeperOf(0, 2), 150 - i);
      x.undo();
    }
    Due.is("no more", x.undo(), 0);
    Due.is("weight", x.keeperOf(0, 2), 90);
  }

  static void promise42_undo_then_acts_again_up_to_sixty() {
    MeetHouse x = weights(70);
    for (int i = 0; i < 5; i++) x.undo();
    Due.is("55 are left", x.size(3), 55);
    for (int i = 0; i < 5; i++) x.weight(0, 500 + i);
    Due.is("60 again", x.size(3), 60);
    x.weight(0, 600);
    Due.is("still 60", x.size(3), 60);
    for (int i = 0; i < 6; i++) x.undo();
    Due.is("before these", x.keeperOf(0, 2), 65);
    for (int i = 0; i < 54; i++) Due.is("undo", x.undo(), 1);
    Due.is("no more", x.undo(), 0);
    Due.is("weight", x.keeperOf(0, 2), 11);
  }

  static void promise42_undo_sixty_laid_plans() {
    MeetHouse x = Houses.ofFamilies(3, Houses.sets(3, 5));
    x.even(0);
    for (int i = 1; i <= 35; i++) {
      x.part(0, i);
      x.lay(0, 3, 0);
    }
    for (int i = 35; i > 5; i--) {
      Due.is("laid", x.taken(0, 3, 0), i);
      x.undo();
      Due.is("part", x.partOf(0), i);
      x.undo();
    }
    Due.is("no more", x.undo(), 0);
    Due.is("laid", x.taken(0, 3, 0), 5);
  }

  // ---- what is no act

  static void promise42_undo_refused_calls_are_no_acts() {
    MeetHouse x = house();
    int acts = x.size(3);
    x.keeper(0, 0);
    x.tenths(9, 0);
    x.most(0);
    x.grid(0, 0, 0);
    x.wall(0, 0, 0, 0, 0, 0);
    x.tree(0, 0);
    x.plane(0, 0);
    x.join(9, 0, 0);
    x.dual(9);
    x.thin(0, 0);
    x.both(9, 0);
    x.better(2);
    x.weight(9, 0);
    x.part(9, 9);
    x.even(9);
    x.use(0);
    x.lay(16, 0, 0);
    x.copy(0, 0, 0, 0, 0);
    Due.is("acts", x.size(3), acts);
    Due.is("as it was", Look.at(x).equals(Look.at(house())), true);
  }

  static void promise42_undo_calls_that_only_ask_are_no_acts() {
    MeetHouse x = house();
    int acts = x.size(3);
    x.keeperOf(0, 0);
    x.family(0, 0);
    x.quorum(0, 0);
    x.has(0, 1);
    x.apart(0, 1);
    x.hit(0);
    x.falls(0);
    x.liars(0, true);
    x.chance(0);
    x.partOf(0);
    x.load(1);
    x.loadOf(0, true);
    x.bound(0, true);
    x.proved();
    x.names(0);
    x.judge(0);
    x.lies(0);
    x.taken(0, 1, 0);
    x.size(0);
    x.status();
    Due.is("acts", x.size(3), acts);
    Due.is("as it was", Look.at(x).equals(Look.at(house())), true);
  }

  static void promise42_undo_list_witness_and_forge_are_no_acts() {
    MeetHouse x = house();
    int acts = x.size(3);
    x.list(5);
    x.witness(0);
    x.forge(0, 1);
    Due.is("acts", x.size(3), acts);
    x.undo();
    Due.is("lay is taken back", x.lies(1), 0);
    Due.is("the list stays", x.size(2), 2);
    Due.is("the sheet stays", x.size(4), 6);
    Due.is("as forged", x.names(0), 3);
  }

  static void promise42_undo_leaves_the_sheet_of_a_family_that_goes() {
    MeetHouse x = Houses.ofFamilies(3, Houses.sets(3, 5, 6));
    x.witness(0);
    x.undo();
    Due.is("families", x.size(1), 0);
    Due.is("pairs", x.size(4), 3);
    Due.is("the last", x.names(2), 2);
  }

  static void promise42_undo_leaves_the_status() {
    MeetHouse x = house();
    x.use(5);
    x.undo();
    Due.is("of use()", x.status(), 6);
    MeetHouse y = new MeetHouse();
    y.use(5);
    y.undo();
    Due.is("of use(), nothing to take back", y.status(), 6);
  }

  public static void main(String[] args) {
    Cases.run(UndoTest.class, args);
  }
}
