import java.util.Random;

/** Runs of 512 calls drawn by seeds, each answer and STATUS held against the plain house. */
public final class ModelTest {
  private static final int[] ODD = {-1, -2, 16, 17, 24, 120, 121, 1000, 1001, Integer.MAX_VALUE, Integer.MIN_VALUE, 65536, -65536};

  private final Random random;
  private final int keepersWanted;
  private final boolean large;
  private final MeetHouse house = new MeetHouse();
  private final PlainHouse plain = new PlainHouse();
  private String call = "";

  /** A large one has its keepers from the start, and seldom goes back: its families grow. */
  private ModelTest(long seed, int keepersWanted, boolean large) {
    this.random = new Random(seed);
    this.large = large;
    this.keepersWanted = keepersWanted;
  }

  private int below(int n) { return random.nextInt(Math.max(1, n)); }
  private boolean oneOf(int n) { return random.nextInt(n) == 0; }
  private int odd() { return ODD[below(ODD.length)]; }
  private int near(int n) { return oneOf(25) ? odd() : oneOf(20) ? n : below(n); }
  private int family() { return near(plain.size(1)); }
  private int keeper() { return near(plain.size(0)); }
  private int place() { return oneOf(25) ? odd() : below(oneOf(6) ? 16 : 2); }
  private int quorum() { return near(Math.max(1, plain.family(below(plain.size(1)), 1))); }
  private int set() {
    int all = (1 << plain.size(0)) - 1;
    if (oneOf(30)) return odd();
    if (oneOf(30)) return 1 << plain.size(0);
    int s = random.nextInt() & all;
    return oneOf(3) ? s & random.nextInt() : s;
  }

  private void same(String text, long got, long want) {
    call = text;
    Due.is(text, got, want);
    Due.is("status() behind " + text, house.status(), plain.status());
  }

  private void same(String text, boolean got, boolean want) { same(text, got ? 1 : 0, want ? 1 : 0); }

  private static String t(String name, Object... args) {
    StringBuilder b = new StringBuilder(name).append('(');
    for (int i = 0; i < args.length; i++) b.append(i == 0 ? "" : ", ").append(args[i]);
    return b.append(')').toString();
  }

  private void makeKeeper() {
    int s = oneOf(20) ? odd() : oneOf(2) ? 1 : 1 + below(oneOf(2) ? 4 : 100), p = oneOf(20) ? odd() : below(11);
    same(t("keeper", s, p), house.keeper(s, p), plain.keeper(s, p));
  }

  /** Sets of one number of keepers: none is within another, so the family has them all. */
  private void makeWide() {
    int n = 1 + below(oneOf(4) ? 125 : 20), all = plain.size(0), size = 1 + below(all - 1);
    for (int i = 0; i < n; i++) {
      int s = 0;
      while (Integer.bitCount(s) < Math.min(size, all)) s |= 1 << below(all);
      same(t("list", s), house.list(s), plain.list(s));
    }
    same("told()", house.told(), plain.told());
  }

  private void makeTold() {
    int n = oneOf(12) ? 125 : 1 + below(oneOf(3) ? 40 : 6);
    if (below(3) > 0) n = Math.min(n, 8);
    int common = oneOf(2) ? 0 : set() & 65535;
    for (int i = 0; i < n; i++) {
      int s = set();
      if (oneOf(2)) s |= common;
      same(t("list", s), house.list(s), plain.list(s));
    }
    if (!oneOf(8)) same("told()", house.told(), plain.told());
  }

  private void makeFamily() {
    int a = family(), b = family(), k = keeper(), s = large && oneOf(2) ? (1 << plain.size(0)) - 1 - (1 << below(32)) : set();
    switch (below(12)) {
      case 0: if (large && oneOf(2)) makeWide(); else makeTold(); break;
      case 1: same(t("most", s), house.most(s), plain.most(s)); break;
      case 2: {
        int r = oneOf(20) ? odd() : 1 + below(5), c = oneOf(20) ? odd() : 1 + below(5), f = oneOf(2) ? 0 : k;
        same(t("grid", r, c, f), house.grid(r, c, f), plain.grid(r, c, f));
        break;
      }
      case 3: {
        int[] w = new int[5];
        for (int i = 0; i < 5; i++) w[i] = oneOf(40) ? odd() : below(6 - i + below(2));
        int f = oneOf(2) ? 0 : k;
        same(t("wall", f, w[0], w[1], w[2], w[3], w[4]),
            house.wall(f, w[0], w[1], w[2], w[3], w[4]), plain.wall(f, w[0], w[1], w[2], w[3], w[4]));
        break;
      }
      case 4: {
        int d = oneOf(20) ? odd() : below(6), f = oneOf(2) ? 0 : k;
        same(t("tree", d, f), house.tree(d, f), plain.tree(d, f));
        break;
      }
      case 5: {
        int o = oneOf(20) ? odd() : 1 + below(4), f = oneOf(2) ? 0 : k;
        same(t("plane", o, f), house.plane(o, f), plain.plane(o, f));
        break;
      }
      case 6: same(t("join", a, k, b), house.join(a, k, b), plain.join(a, k, b)); break;
      case 7: same(t("dual", a), house.dual(a), plain.dual(a)); break;
      case 8: same(t("thin", a, s), house.thin(a, s), plain.thin(a, s)); break;
      case 9: same(t("both", a, b), house.both(a, b), plain.both(a, b)); break;
      default: same(t("better", a), house.better(a), plain.better(a)); break;
    }
  }

  private void ask() {
    int f = family(), g = family(), k = keeper(), s = set(), w = near(6), i = quorum();
    boolean flag = oneOf(2);
    switch (below(17)) {
      case 0: same(t("keeperOf", k, w), house.keeperOf(k, w), plain.keeperOf(k, w)); break;
      case 1: same(t("family", f, w), house.family(f, w), plain.family(f, w)); break;
      case 2: same(t("quorum", f, i), house.quorum(f, i), plain.quorum(f, i)); break;
      case 3: same(t("has", f, s), house.has(f, s), plain.has(f, s)); break;
      case 4: same(t("apart", f, g), house.apart(f, g), plain.apart(f, g)); break;
      case 5: same(t("apart", f, f), house.apart(f, f), plain.apart(f, f)); break;
      case 6: same(t("hit", f), house.hit(f), plain.hit(f)); break;
      case 7: same(t("falls", f), house.falls(f), plain.falls(f)); break;
      case 8: same(t("liars", f, flag), house.liars(f, flag), plain.liars(f, flag)); break;
      case 9: same(t("chance", f), house.chance(f), plain.chance(f)); break;
      case 10: same(t("partOf", i), house.partOf(i), plain.partOf(i)); break;
      case 11: same(t("load", w), house.load(w), plain.load(w)); break;
      case 12: same(t("loadOf", k, flag), house.loadOf(k, flag), plain.loadOf(k, flag)); break;
      case 13: same(t("bound", f, flag), house.bound(f, flag), plain.bound(f, flag)); break;
      case 14: same("proved()", house.proved(), plain.proved()); break;
      case 15: same(t("size", w), house.size(w), plain.size(w)); break;
      default: same(t("judge", f), house.judge(f), plain.judge(f)); break;
    }
  }

  private void change() {
    int f = family(), k = keeper(), i = quorum();
    int p = oneOf(10) ? odd() : oneOf(3) ? 0 : below(oneOf(2) ? 4 : 1001), t = oneOf(20) ? odd() : below(11);
    switch (below(6)) {
      case 0: same(t("tenths", k, t), house.tenths(k, t), plain.tenths(k, t)); break;
      case 1: same(t("even", f), house.even(f), plain.even(f)); break;
      case 2: case 3: same(t("part", i, p), house.part(i, p), plain.part(i, p)); break;
      default: same(t("weight", k, p), house.weight(k, p), plain.weight(k, p)); break;
    }
  }

  private void doWitness() {
    int f = family(), n = near(plain.size(4)), m = oneOf(4) ? random.nextInt() : below(4);
    switch (below(4)) {
      case 0: same(t("witness", f), house.witness(f), plain.witness(f)); break;
      case 1: same(t("names", n), house.names(n), plain.names(n)); break;
      case 2: same(t("forge", n, m), house.forge(n, m), plain.forge(n, m)); break;
      default: same(t("judge", f), house.judge(f), plain.judge(f)); break;
    }
  }

  private void doCase() {
    int j = place(), k = oneOf(3) ? j : place(), sort = oneOf(20) ? odd() : below(oneOf(2) ? 5 : 4);
    if (oneOf(2)) sort = 3;
    int n = sort == 1 ? family() : sort == 2 ? set() : random.nextInt(), i = quorum(), m = quorum(), c = near(oneOf(2) ? 4 : 8);
    switch (below(7)) {
      case 0: case 1: same(t("lay", k, sort, n), house.lay(k, sort, n), plain.lay(k, sort, n)); break;
      case 2: same(t("lies", k), house.lies(k), plain.lies(k)); break;
      case 3: same(t("taken", k, sort, i), house.taken(k, sort, i), plain.taken(k, sort, i)); break;
      case 4: case 5: same(t("copy", j, i, k, m, c), house.copy(j, i, k, m, c), plain.copy(j, i, k, m, c)); break;
      default: same(t("use", k), house.use(k), plain.use(k)); break;
    }
  }

  private void goBack() {
    int n = oneOf(large ? 60 : 30) ? 70 : 1 + below(large ? 1 : 3);
    for (int i = 0; i < n; i++) same("undo()", house.undo(), plain.undo());
  }

  private void step() {
    if (plain.size(0) < keepersWanted && oneOf(3)) { makeKeeper(); return; }
    int kind = below(100);
    if (kind < 2) makeKeeper();
    else if (kind < 22) makeFamily();
    else if (kind < 45) ask();
    else if (kind < 65) change();
    else if (kind < 73) doWitness();
    else if (kind < 92) doCase();
    else goBack();
  }

  private void compareAll() {
    for (int i = -1; i < 6; i++) Due.is("size " + i, house.size(i), plain.size(i));
    for (int k = -1; k < 17; k++)
      for (int w = -1; w < 4; w++) Due.is("keeperOf " + k, house.keeperOf(k, w), plain.keeperOf(k, w));
    for (int f = -1; f < 25; f++) {
      for (int w = -1; w < 6; w++) Due.is("family " + f, house.family(f, w), plain.family(f, w));
      for (int i = -1; i < 122; i++) Due.is("quorum " + f + " " + i, house.quorum(f, i), plain.quorum(f, i));
    }
    for (int i = -1; i < 122; i++) Due.is("partOf " + i, house.partOf(i), plain.partOf(i));
    for (int i = -1; i < 5; i++) Due.is("load " + i, house.load(i), plain.load(i));
    for (int i = -1; i < 7142; i++) Due.is("names " + i, house.names(i), plain.names(i));
    for (int k = -1; k < 17; k++)
      for (int s = 0; s < 4; s++) {
        Due.is("lies " + k, house.lies(k), plain.lies(k));
        for (int i = -1; i < 122; i += s == 3 ? 1 : 50)
          Due.is("taken " + k + " " + s, house.taken(k, s, i), plain.taken(k, s, i));
      }
  }

  private boolean run() {
    int calls = 400 + below(112);
    for (int i = 0; large && i < keepersWanted; i++) makeKeeper();
    for (int i = 0; i < calls; i++) {
      step();
      if (Due.anyWrong()) return false;
    }
    call = "the end";
    compareAll();
    return !Due.anyWrong();
  }

  /** Wide families, and each kind that is made of others, asked for all that is computed of them. */
  private boolean runCrowd() {
    for (int i = 0; i < keepersWanted; i++) makeKeeper();
    for (int i = 0; i < 3; i++) makeWide();
    for (int i = 0; i < 10; i++) {
      int a = family(), b = family(), k = keeper(), f = plain.size(1) - 1;
      same(t("join", a, k, b), house.join(a, k, b), plain.join(a, k, b));
      same(t("both", a, b), house.both(a, b), plain.both(a, b));
      same(t("dual", a), house.dual(a), plain.dual(a));
      same(t("better", b), house.better(b), plain.better(b));
      same(t("hit", f), house.hit(f), plain.hit(f));
      same(t("chance", f), house.chance(f), plain.chance(f));
      same(t("liars", f, false), house.liars(f, false), plain.liars(f, false));
      same(t("even", f), house.even(f), plain.even(f));
      for (int w = 0; w < 4; w++) same(t("load", w), house.load(w), plain.load(w));
      if (Due.anyWrong()) return false;
    }
    call = "the end of a crowd";
    compareAll();
    return !Due.anyWrong();
  }

  public static void main(String[] args) {
    int runs = args.length > 0 ? Integer.parseInt(args[0]) : 400;
    for (int seed = 1; seed <= runs; seed++) {
      boolean large = seed % 2 == 0;
      int wanted = large || seed % 4 == 3 ? 7 + seed / 2 % 10 : 1 + seed % 10 + seed % 3;
      ModelTest test = new ModelTest(seed, wanted, large);
      if (!(seed % 4 == 3 ? test.runCrowd() : test.run())) {
        System.out.println("seed " + seed + ", at " + test.call);
        break;
      }
    }
    Due.end();
  }
}
