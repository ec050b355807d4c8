/** Promises 5 to 18. */
public final class FamiliesTest {
  private static final int MIN = Integer.MIN_VALUE;
  private static final int MAX = Integer.MAX_VALUE;

  private static void list() {
    MeetHouse x = Houses.equal(3);
    for (int set : new int[] {0, 8, 9, -1, MIN, 65536}) Due.refused(x, "list " + set, x.list(set), 2);
    Due.is("none came", x.size(2), 0);
    for (int i = 1; i <= 120; i++) Due.is("list", x.list(7), i);
    Due.is("accepted", x.status(), 0);
    Due.refused(x, "one more", x.list(7), 4);
    Due.refused(x, "a number ahead of no room", x.list(8), 2);
    Due.is("size", x.size(2), 120);
    Due.is("list is no act", x.size(3), 3);
  }

  private static void told() {
    MeetHouse x = Houses.equal(4);
    Due.refused(x, "the list is empty", x.told(), 5);
    Houses.quorums("least, by numbers, once", x, Houses.told(x, 12, 6, 3, 7, 3, 14, 6), 0, 3, 6, 12);
    Due.is("the list is empty then", x.size(2), 0);
    Houses.fill(x);
    Due.refused(x, "empty ahead of no room", x.told(), 5);
    x.list(5);
    Due.refused(x, "no room", x.told(), 4);
    Due.is("the list stays", x.size(2), 1);
    x.undo();
    Due.is("with room", x.told(), 23);
    Houses.quorums("with room", x, 23, 0, 5);
  }

  private static void toldWide() {
    MeetHouse x = Houses.equal(16);
    int sets = 0;
    for (int a = 0; a < 16; a++) for (int b = 0; b < a; b++) if (sets++ < 120) x.list(1 << a | 1 << b);
    Due.is("120 are never many", x.told(), 0);
    Due.is("120 quorums", x.family(0, 1), 120);
    Due.is("the last", x.quorum(0, 119), 49152);
    Due.is("121", x.quorum(0, 120), -1);
  }

  private static void most() {
    MeetHouse x = Houses.ofStrengths(1, 2, 3, 1);
    Houses.quorums("unlike strengths", x, x.most(15), 1, 5, 6, 11, 12);
    Houses.quorums("half is not enough", x, x.most(9), 1, 9);
    Houses.quorums("one rules", x, x.most(13), 1, 4);
    Houses.quorums("of one", x, x.most(2), 1, 2);
    Houses.quorums("three of six are half", x, x.most(14), 1, 6, 12);
    for (int[] s : new int[][] {{1, 3, 2, 5}, {5, 3, 2, 1}, {2, 5, 1, 3}, {3, 1, 5, 2}}) {
      MeetHouse z = Houses.ofStrengths(s);
      int strong = 0;
      for (int k = 0; k < 4; k++) if (s[k] == 5) strong = 1 << k;
      int[] due = new int[4];
      for (int k = 0; k < 4; k++) due[k] = 1 << k == strong ? 15 - strong : strong + (1 << k);
      java.util.Arrays.sort(due);
      Houses.quorums("5 with one, or the others", z, z.most(15), 1, due);
    }
    MeetHouse y = Houses.ofStrengths(1, 100, 1, 1);
    Houses.quorums("the strong one alone", y, y.most(15), 1, 2);
    for (int set : new int[] {0, 16, 31, -1, MIN}) Due.refused(y, "most " + set, y.most(set), 2);
    MeetHouse nine = Houses.equal(9);
    Due.is("56 of eight", nine.family(nine.most(255), 1), 56);
    Due.refused(nine, "126 of nine", nine.most(511), 3);
    Due.is("it isn't made", nine.size(1), 1);
    Due.is("nor an act", nine.size(3), 10);
    Houses.fill(nine);
    Due.refused(nine, "no room ahead of many", nine.most(511), 4);
    Due.refused(nine, "a number ahead of no room", nine.most(512), 2);
  }

  private static void grid() {
    MeetHouse x = Houses.equal(16);
    Houses.quorums("2 x 2", x, x.grid(2, 2, 0), 2, 7, 11, 12);
    Houses.quorums("2 x 2 from 12", x, x.grid(2, 2, 12), 2, 7 << 12, 11 << 12, 12 << 12);
    Houses.quorums("1 x 16", x, x.grid(1, 16, 0), 2, 65535);
    Houses.quorums("16 x 1: the last row is within each", x, x.grid(16, 1, 0), 2, 32768);
    Due.is("6 x 2", x.family(x.grid(6, 2, 0), 1), 63);
    Due.refused(x, "7 x 2 has 127", x.grid(7, 2, 0), 3);
    int[][] numbers = {{0, 1}, {17, 1}, {1, 0}, {1, 17}, {-1, 3}, {MIN, MIN}, {MAX, MAX}};
    for (int[] n : numbers) Due.refused(x, "grid " + n[0] + " " + n[1], x.grid(n[0], n[1], 99), 2);
    int[][] none = {{2, 2, 13}, {2, 2, -1}, {2, 2, 16}, {16, 16, 0}, {1, 1, MAX}, {1, 1, MIN}, {7, 2, 3}};
    for (int[] n : none) Due.refused(x, "grid from " + n[2], x.grid(n[0], n[1], n[2]), 1);
    Houses.fill(x);
    Due.refused(x, "no room ahead of many", x.grid(7, 2, 0), 4);
    Due.refused(x, "none such ahead of no room", x.grid(7, 2, 3), 1);
  }

  private static void wall() {
    MeetHouse x = Houses.equal(16);
    Houses.quorums("rows below a row of one", x, x.wall(0, 2, 1, 3, 0, 9), 3, 12, 20, 36, 56);
    Houses.quorums("from 3", x, x.wall(3, 1, 2, 0, 0, 0), 3, 3 << 3, 5 << 3, 6 << 3);
    Houses.quorums("one row", x, x.wall(0, 16, 0, 16, 16, 16), 3, 65535);
    Houses.quorums("five rows of one", x, x.wall(11, 1, 1, 1, 1, 1), 3, 32768);
    Due.refused(x, "3 3 3 3 4 has 161", x.wall(0, 3, 3, 3, 3, 4), 3);
    int[][] numbers = {{0, 1, 1, 1, 1}, {-1, 0, 0, 0, 0}, {17, 0, 0, 0, 0}, {1, 17, 0, 0, 0}, {1, 1, -1, 0, 0},
        {1, 1, 1, 17, 0}, {1, 1, 1, 1, -1}, {1, 0, 0, 0, 17}, {1, 0, -1, 0, 0}, {MAX, MAX, MAX, MAX, MAX}};
    for (int[] n : numbers)
      Due.refused(x, "wall " + n[0] + n[1] + n[2] + n[3] + n[4], x.wall(99, n[0], n[1], n[2], n[3], n[4]), 2);
    Due.refused(x, "first too far", x.wall(10, 3, 4, 0, 0, 0), 1);
    Due.refused(x, "first below 0", x.wall(-1, 3, 0, 0, 0, 0), 1);
    Due.refused(x, "first 16", x.wall(16, 1, 0, 0, 0, 0), 1);
    Due.refused(x, "all 16", x.wall(0, 16, 16, 16, 16, 16), 1);
    Houses.fill(x);
    Due.refused(x, "no room ahead of many", x.wall(0, 3, 3, 3, 3, 4), 4);
    Due.refused(x, "none such ahead of no room", x.wall(1, 3, 3, 3, 3, 4), 1);
  }

  private static void tree() {
    MeetHouse x = Houses.equal(16);
    Houses.quorums("depth 1", x, x.tree(1, 15), 4, 32768);
    Houses.quorums("depth 2 from 5", x, x.tree(2, 5), 4, 3 << 5, 5 << 5, 6 << 5);
    Houses.quorums("depth 3", x, x.tree(3, 0), 4, 11, 19, 25, 37, 46, 54, 60, 69, 78, 86, 92, 97, 106, 114, 120);
    Due.refused(x, "depth 4 has 255", x.tree(4, 1), 3);
    for (int d : new int[] {0, 5, -1, MIN, MAX}) Due.refused(x, "depth " + d, x.tree(d, 99), 2);
    Due.refused(x, "too far", x.tree(3, 10), 1);
    Due.refused(x, "depth 4 too far", x.tree(4, 2), 1);
    Due.refused(x, "below 0", x.tree(1, -1), 1);
    Due.refused(x, "16", x.tree(1, 16), 1);
    Due.refused(x, "far", x.tree(4, MAX), 1);
    Houses.fill(x);
    Due.refused(x, "no room ahead of many", x.tree(4, 0), 4);
    Due.refused(x, "none such ahead of no room", x.tree(4, 2), 1);
  }

  private static void plane() {
    MeetHouse x = Houses.equal(14);
    Houses.quorums("order 2", x, x.plane(2, 0), 5, 11, 22, 44, 49, 69, 88, 98);
    Houses.quorums("order 2 from 7", x, x.plane(2, 7), 5, 11 << 7, 22 << 7, 44 << 7, 49 << 7, 69 << 7, 88 << 7, 98 << 7);
    int three = x.plane(3, 1);
    Due.is("13 lines", x.family(three, 1), 13);
    Due.is("of four", x.family(three, 3) + x.family(three, 4), 8);
    Due.is("all meet", x.apart(three, three), -2);
    Due.is("0 1 3 9", x.has(three, 523 << 1), 1);
    Due.is("12 0 2 8", x.has(three, (4096 + 1 + 4 + 256) << 1), 1);
    for (int o : new int[] {1, 4, 0, -2, MIN, MAX}) Due.refused(x, "order " + o, x.plane(o, 99), 2);
    Due.refused(x, "too far", x.plane(2, 8), 1);
    Due.refused(x, "too far of order 3", x.plane(3, 2), 1);
    Due.refused(x, "below 0", x.plane(2, -1), 1);
    Due.refused(x, "far", x.plane(2, MAX), 1);
    Houses.fill(x);
    Due.refused(x, "no room", x.plane(2, 0), 4);
    Due.refused(x, "none such ahead of no room", x.plane(2, 8), 1);
  }

  private static void join() {
    MeetHouse x = Houses.equal(16);
    int f = x.most(7);
    int g = x.most(56);
    Houses.quorums("by 2", x, x.join(f, 2, g), 6, 3, 25, 26, 41, 42, 49, 50);
    Houses.quorums("by one that is in none", x, x.join(f, 8, g), 6, 3, 5, 6);
    Houses.quorums("by 2 and itself", x, x.join(f, 2, f), 6, 3, 5, 6);
    int low = Houses.told(x, 1);
    Houses.quorums("only the least stay", x, x.join(f, 2, low), 6, 1);
    for (int[] n : new int[][] {{9, 0, 0}, {0, 0, 9}, {-1, 0, 0}, {0, 0, -1}, {0, 16, 0}, {0, -1, 0}, {MAX, MAX, MIN}})
      Due.refused(x, "join " + n[0] + " " + n[1] + " " + n[2], x.join(n[0], n[1], n[2]), 1);
    int wide = Houses.told(x, 3, 5, 9, 17, 33, 65, 129, 257, 513, 1025, 2049);
    int other = Houses.told(x, 2, 4, 8, 16, 32, 64, 128, 256, 512, 1024, 2048, 4096, 8192, 16384, 32768);
    Due.is("eleven by fifteen: each has one of eleven", x.family(x.join(wide, 0, other), 1), 11);
    int apart = Houses.told(x, 1 | 2, 1 | 4, 1 | 8, 1 | 16, 1 | 32, 1 | 64, 1 | 128, 1 | 256);
    int far = Houses.told(x, 1536, 2560, 4608, 8704, 16896, 33280, 3072, 5120, 9216, 17408, 33792, 6144, 10240, 18432, 34816);
    Due.is("eight by fifteen", x.family(x.join(apart, 0, far), 1), 120);
    int more = Houses.told(x, 1536, 2560, 4608, 8704, 16896, 33280, 3072, 5120, 9216, 17408, 33792, 6144, 10240, 18432, 34816, 12288);
    Due.refused(x, "eight by sixteen", x.join(apart, 0, more), 3);
    Houses.fill(x);
    Due.refused(x, "no room ahead of many", x.join(apart, 0, more), 4);
    Due.refused(x, "none such ahead of no room", x.join(24, 0, more), 1);
  }

  private static void dual() {
    MeetHouse x = Houses.equal(16);
    Houses.quorums("of 3 12", x, x.dual(Houses.told(x, 3, 12)), 7, 5, 6, 9, 10);
    Houses.quorums("of one", x, x.dual(Houses.told(x, 32769)), 7, 1, 32768);
    Houses.quorums("of ones", x, x.dual(Houses.told(x, 1, 2, 32768)), 7, 32771);
    Houses.quorums("of a majority", x, x.dual(x.most(7)), 7, 3, 5, 6);
    Houses.quorums("twice is itself", x, x.dual(x.dual(x.grid(2, 2, 0))), 7, 7, 11, 12);
    for (int f : new int[] {-1, x.size(1), 24, MAX, MIN}) Due.refused(x, "dual " + f, x.dual(f), 1);
    for (int n = 4; n <= 8; n++) {
      MeetHouse few = Houses.equal(n);
      int last = 1 << (n - 1);
      Houses.quorums("among " + n, few, few.dual(Houses.told(few, 3, 4 + last)), 7, 5, 6, 1 + last, 2 + last);
    }
    int pairs = Houses.told(x, 3, 12, 48, 192, 768, 3072);
    Due.is("64", x.family(x.dual(pairs), 1), 64);
    int seven = Houses.told(x, 3, 12, 48, 192, 768, 3072, 12288);
    Due.refused(x, "128", x.dual(seven), 3);
    Houses.fill(x);
    Due.refused(x, "no room ahead of many", x.dual(seven), 4);
    Due.refused(x, "none such ahead of no room", x.dual(24), 1);
  }

  private static void thin() {
    MeetHouse x = Houses.equal(5);
    int f = x.most(31);
    Houses.quorums("to four", x, x.thin(f, 15), 8, 7, 11, 13, 14);
    Houses.quorums("bits of no keepers", x, x.thin(f, -32 | 7), 8, 7);
    Due.is("to all", x.family(x.thin(f, -1), 1), 10);
    Due.refused(x, "none is within", x.thin(f, 3), 5);
    Due.refused(x, "0", x.thin(f, 0), 5);
    for (int g : new int[] {-1, 4, 24, MAX, MIN}) Due.refused(x, "thin " + g, x.thin(g, 0), 1);
    Houses.fill(x);
    Due.refused(x, "no room ahead of no set", x.thin(f, 3), 4);
    Due.refused(x, "none such ahead of no room", x.thin(24, 3), 1);
  }

  private static void both() {
    MeetHouse x = Houses.equal(16);
    int f = x.most(7);
    int g = x.most(56);
    Houses.quorums("apart", x, x.both(f, g), 9, 27, 29, 30, 43, 45, 46, 51, 53, 54);
    Houses.quorums("with itself", x, x.both(f, f), 9, 3, 5, 6);
    Houses.quorums("one within the other", x, x.both(f, Houses.told(x, 1)), 9, 3, 5);
    for (int[] n : new int[][] {{9, 0}, {0, 9}, {-1, 0}, {0, -1}, {MAX, MIN}})
      Due.refused(x, "both " + n[0] + " " + n[1], x.both(n[0], n[1]), 1);
    int eleven = Houses.told(x, 1, 2, 4, 8, 16, 32, 64, 128, 256, 512, 1024);
    int ten = Houses.told(x, 3 << 11, 5 << 11, 9 << 11, 17 << 11, 6 << 11, 10 << 11, 18 << 11, 12 << 11, 20 << 11, 24 << 11);
    int twelve = Houses.told(x, 1, 2, 4, 8, 16, 32, 64, 128, 256, 512, 1024, 2048);
    Due.is("110", x.family(x.both(eleven, ten), 1), 110);
    int more = Houses.told(x, 1 << 12, 2 << 12, 4 << 12, 8 << 12);
    Due.is("48", x.family(x.both(twelve, more), 1), 48);
    int ways = x.dual(Houses.told(x, 3, 12, 48, 192));
    int others = x.dual(Houses.told(x, 768, 3072, 12288));
    Due.is("16 by 8 were", x.family(ways, 1) * x.family(others, 1), 128);
    Due.refused(x, "128", x.both(ways, others), 3);
    Houses.fill(x);
    Due.refused(x, "no room ahead of many", x.both(ways, others), 4);
    Due.refused(x, "none such ahead of no room", x.both(ways, 24), 1);
  }

  private static void better() {
    MeetHouse x = Houses.equal(16);
    Houses.quorums("the first of two comes", x, x.better(Houses.told(x, 3)), 10, 1);
    Houses.quorums("three of four", x, x.better(Houses.told(x, 7, 11, 13, 14)), 10, 3, 5, 6);
    Houses.quorums("none is better", x, x.better(x.most(7)), 10, 3, 5, 6);
    Houses.quorums("within its own keepers", x, x.better(Houses.told(x, 32768 | 64, 32768 | 128)), 10, 192, 32832, 32896);
    Houses.quorums("a grid: 5 comes, then 6; 7 has 5", x, x.better(x.grid(2, 2, 0)), 10, 5, 6, 11, 12);
    meetsItsOwn(Houses.equal(9), 3);
    meetsItsOwn(Houses.equal(12), 12);
    meetsItsOwn(Houses.equal(15), 15);
    comesBack(119, 4, 3, 2, 2, 3, 1, 2, 3, 1, 2);
    comesBack(121, 3, 2, 1, 1, 4, 3, 4, 3, 3, 3);
    int split = Houses.told(x, 1, 2);
    int grid = x.grid(4, 4, 0);
    Due.refused(x, "two don't meet", x.better(split), 7);
    Due.refused(x, "many", x.better(grid), 3);
    for (int f : new int[] {-1, x.size(1), 24, MAX, MIN}) Due.refused(x, "better " + f, x.better(f), 1);
    Houses.fill(x);
    Due.refused(x, "don't meet ahead of no room", x.better(split), 7);
    Due.refused(x, "no room ahead of many", x.better(grid), 4);
    Due.refused(x, "none such ahead of no room", x.better(24), 1);
  }

  /** Of what can't be bettered the sets that meet it are those that it has. */
  private static void meetsItsOwn(MeetHouse x, int last) {
    int f = last == 3 ? x.grid(3, 3, 0) : x.tree(3, last - 7);
    if (last == 15) f = x.join(f, 14, x.plane(2, 0));
    int b = x.better(f);
    int d = x.dual(b);
    Due.is("it was made", b >= 0 && d >= 0, true);
    Due.is("as many", x.family(b, 1), x.family(d, 1));
    for (int i = 0; i < x.family(b, 1); i++) Due.is("quorum " + i, x.quorum(b, i), x.quorum(d, i));
    for (int i = 0; i < x.family(f, 1); i++) Due.is("still enough", x.has(b, x.quorum(f, i)), 1);
  }

  /** Of a majority only the quorums that have the last keeper are told: the others come by their numbers. */
  private static void comesBack(int quorums, int... strengths) {
    MeetHouse x = Houses.ofStrengths(strengths);
    int whole = 0;
    for (int s : strengths) whole += s;
    java.util.List<Integer> due = new java.util.ArrayList<>();
    for (int set = 1; set < 1 << strengths.length; set++) {
      int sum = 0;
      int weakest = 100;
      for (int k = 0; k < strengths.length; k++) {
        if ((set >> k & 1) == 0) continue;
        sum += strengths[k];
        weakest = Math.min(weakest, strengths[k]);
      }
      if (2 * sum > whole && 2 * (sum - weakest) < whole) due.add(set);
    }
    Due.is("quorums of the majority", due.size(), quorums);
    for (int set : due) if (set >> strengths.length - 1 == 1) x.list(set);
    int f = x.told();
    if (quorums > 120) {
      Due.refused(x, "one too many", x.better(f), 3);
      return;
    }
    int b = x.better(f);
    Due.is("how many", x.family(b, 1), quorums);
    for (int i = 0; i < quorums; i++) Due.is("quorum " + i, x.quorum(b, i), due.get(i));
  }

  private static void family() {
    MeetHouse x = Houses.equal(6);
    int f = x.wall(0, 3, 2, 0, 0, 0);
    Due.is("kind", x.family(f, 0), 3);
    Due.is("quorums", x.family(f, 1), 3);
    Due.is("keepers", x.family(f, 2), 31);
    Due.is("fewest", x.family(f, 3), 2);
    Due.is("most", x.family(f, 4), 4);
    x.keeper(0, 0);
    for (int w : new int[] {-1, 5, MAX, MIN}) Due.is("what " + w, x.family(f, w), -1);
    for (int g : new int[] {-1, 1, 24, MAX, MIN}) Due.is("family " + g, x.family(g, 0), -1);
    Due.is("the status is of keeper()", x.status(), 2);
  }

  private static void quorum() {
    MeetHouse x = Houses.equal(6);
    int f = x.grid(2, 2, 0);
    Due.is("0", x.quorum(f, 0), 7);
    Due.is("2", x.quorum(f, 2), 12);
    x.keeper(0, 0);
    for (int i : new int[] {-1, 3, 120, MAX, MIN}) Due.is("quorum " + i, x.quorum(f, i), -1);
    for (int g : new int[] {-1, 1, 24, MAX, MIN}) Due.is("family " + g, x.quorum(g, 0), -1);
    Due.is("the status is of keeper()", x.status(), 2);
  }

  private static void room() {
    MeetHouse x = Houses.equal(2);
    for (int i = 0; i < 24; i++) Due.is("family " + i, x.most(3), i);
    Due.refused(x, "a 25th", x.most(3), 4);
    Due.is("24", x.size(1), 24);
    Due.is("the last", x.quorum(23, 0), 3);
  }

  public static void main(String[] args) {
    list();
    told();
    toldWide();
    most();
    grid();
    wall();
    tree();
    plane();
    join();
    dual();
    thin();
    both();
    better();
    family();
    quorum();
    room();
    Due.end();
  }
}
