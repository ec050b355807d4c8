/** Promise 42. */
public final class UndoTest {
  private static void keeper() {
    MeetHouse x = Houses.equal(2);
    x.list(2);
    x.list(1);
    Due.is("undo", x.undo(), 1);
    Due.is("the keeper is gone", x.size(0), 1);
    Due.is("it isn't there", x.keeperOf(1, 0), -1);
    Due.is("the list is empty", x.size(2), 0);
    Due.is("again", x.undo(), 1);
    Due.is("none is left", x.undo(), 0);
    Due.is("still none", x.undo(), 0);
    Due.is("first again", x.keeper(9, 8), 0);
    Due.is("with its strength", x.keeperOf(0, 0), 9);
  }

  private static void weightIsNew() {
    MeetHouse x = Houses.equal(1);
    x.weight(0, 5);
    x.undo();
    x.undo();
    x.keeper(1, 1);
    Due.is("weight of a new one", x.keeperOf(0, 2), 0);
  }

  private static void tenthsAndWeight() {
    MeetHouse x = Houses.equal(2);
    x.tenths(1, 9);
    x.tenths(1, 3);
    x.weight(0, 7);
    x.weight(0, 8);
    x.undo();
    Due.is("weight 7", x.keeperOf(0, 2), 7);
    x.undo();
    Due.is("weight 0", x.keeperOf(0, 2), 0);
    x.undo();
    Due.is("tenths 9", x.keeperOf(1, 1), 9);
    x.undo();
    Due.is("tenths 5", x.keeperOf(1, 1), 5);
  }

  private static void families() {
    MeetHouse x = Houses.equal(7);
    x.list(3);
    int[] made = {x.told(), x.most(7), x.grid(2, 2, 0), x.wall(0, 1, 2, 0, 0, 0), x.tree(2, 0), x.plane(2, 0),
        x.join(1, 2, 1), x.dual(1), x.thin(1, 3), x.both(1, 1), x.better(1)};
    for (int i = 0; i < 11; i++) Due.is("kind " + i, x.family(made[i], 0), i);
    Due.is("acts", x.size(3), 18);
    for (int i = 10; i >= 0; i--) {
      Due.is("undo", x.undo(), 1);
      Due.is("families", x.size(1), i);
      Due.is("gone", x.quorum(i, 0), -1);
    }
    Due.is("the list stays empty", x.size(2), 0);
    Due.is("the keepers stay", x.size(0), 7);
    Due.is("first again", x.most(1), 0);
    Due.is("of one now", x.family(0, 1), 1);
  }

  private static void toldLeavesTheList() {
    MeetHouse x = Houses.equal(3);
    x.list(3);
    x.told();
    x.list(5);
    x.undo();
    Due.is("what came behind told() stays", x.size(2), 1);
    x.told();
    Due.is("and is told", x.quorum(0, 0), 5);
  }

  private static void plan() {
    MeetHouse x = Houses.equal(3);
    int f = x.most(7);
    int g = Houses.told(x, 1, 2);
    x.even(f);
    x.part(1, 7);
    x.part(1, 8);
    x.lay(0, 3, 0);
    x.even(g);
    x.use(0);
    Due.is("used", x.partOf(1), 8);
    x.undo();
    Due.is("even of g", x.load(0), g);
    Due.is("its parts", x.partOf(1) + x.partOf(2), 0);
    x.undo();
    Due.is("of f", x.load(0), f);
    Due.is("its part", x.partOf(1), 8);
    x.undo();
    Due.is("nothing lies there", x.lies(0), 0);
    x.undo();
    Due.is("part 7", x.partOf(1), 7);
    x.undo();
    Due.is("part 1", x.partOf(1), 1);
    x.undo();
    Due.is("no plan", x.load(0), -1);
    Due.is("no part", x.partOf(0), -1);
    Due.refused(x, "none to lay", x.lay(0, 3, 0), 1);
  }

  private static void places() {
    MeetHouse x = Houses.equal(3);
    x.even(x.most(7));
    x.lay(2, 2, 5);
    x.lay(2, 1, 0);
    x.lay(2, 3, 0);
    x.part(0, 9);
    x.lay(1, 3, 0);
    x.copy(1, 0, 2, 1, 2);
    x.lay(2, 0, 0);
    x.undo();
    Due.is("the plan is back", x.lies(2), 3);
    Due.is("as copied", x.taken(2, 3, 1), 9);
    x.undo();
    Due.is("copy is taken back", x.taken(2, 3, 1), 1);
    Due.is("from where it came", x.taken(1, 3, 0), 9);
    x.undo();
    x.undo();
    x.undo();
    Due.is("the family is back", x.taken(2, 1, 0), 0);
    x.undo();
    Due.is("the set is back", x.taken(2, 2, 0), 5);
    x.undo();
    Due.is("nothing", x.lies(2), 0);
  }

  private static void sixty() {
    MeetHouse x = Houses.equal(1);
    for (int i = 1; i <= 70; i++) {
      x.weight(0, i);
      Due.is("acts", x.size(3), Math.min(60, i + 1));
    }
    x.undo();
    Due.is("59 are left", x.size(3), 59);
    x.weight(0, 500);
    Due.is("60 again", x.size(3), 60);
    for (int i = 0; i < 60; i++) Due.is("undo " + i, x.undo(), 1);
    Due.is("no more", x.undo(), 0);
    Due.is("the tenth stays", x.keeperOf(0, 2), 10);
    Due.is("the keeper stays", x.size(0), 1);
  }

  private static void noActs() {
    MeetHouse x = Houses.equal(3);
    x.most(7);
    x.even(0);
    int acts = x.size(3);
    x.list(1);
    x.witness(0);
    x.forge(0, 1);
    x.judge(0);
    x.hit(0);
    x.chance(0);
    x.bound(0, true);
    x.proved();
    x.lies(0);
    x.taken(0, 1, 0);
    x.keeper(0, 0);
    x.tenths(9, 0);
    x.most(0);
    x.part(9, 9);
    x.even(9);
    x.use(0);
    x.lay(16, 0, 0);
    x.copy(0, 0, 0, 0, 0);
    x.weight(9, 0);
    x.thin(0, 0);
    Due.is("no act was among these", x.size(3), acts);
    x.undo();
    Due.is("even is the latest", x.load(0), -1);
    x.undo();
    Due.is("the sheet stays", x.size(4), 3);
    Due.is("as forged", x.names(0), 1);
    Due.is("the list stays", x.size(2), 1);
  }

  public static void main(String[] args) {
    keeper();
    weightIsNew();
    tenthsAndWeight();
    families();
    toldLeavesTheList();
    plan();
    places();
    sixty();
    noActs();
    Due.end();
  }
}
