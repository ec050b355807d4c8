/** Promises 33 to 36. */
public final class WitnessesTest {
  private static final int MIN = Integer.MIN_VALUE;
  private static final int MAX = Integer.MAX_VALUE;
  private static final int[] NO_FAMILY = {-1, 9, 24, MAX, MIN};

  private static void witness() {
    MeetHouse x = Houses.equal(6);
    int f = Houses.told(x, 3, 6, 12, 40);
    Due.is("six pairs", x.witness(f), 6);
    Due.is("accepted", x.status(), 0);
    Due.is("size", x.size(4), 6);
    int[] due = {1, -1, -1, 2, -1, 3};
    for (int k = 0; k < 6; k++) Due.is("pair " + k, x.names(k), due[k]);
    for (int g : NO_FAMILY) Due.refused(x, "witness " + g, x.witness(g), 1);
    Due.is("refused: the sheet stays", x.size(4), 6);
    int wide = Houses.told(x, 56, 50, 52);
    Due.is("another", x.witness(wide), 3);
    Due.is("the least of both", x.names(0), 4);
    Due.is("50 is first", x.names(1), 4);
    Due.is("52 and 56", x.names(2), 4);
    Due.is("behind the last", x.names(3), -2);
    Due.is("of one", x.witness(Houses.told(x, 7)), 0);
    Due.is("no pairs", x.size(4), 0);
    Due.is("witness is no act", x.size(3), 6 + 3);
  }

  private static void widest() {
    MeetHouse x = Houses.equal(16);
    for (int a = 0; a < 16; a++) for (int b = 0; b < a; b++) x.list(1 << a | 1 << b);
    int f = x.told();
    Due.is("7140 pairs", x.witness(f), 7140);
    Due.is("3 and 5", x.names(0), 0);
    Due.is("the last of all", x.names(7139), 15);
    Due.is("behind it", x.names(7140), -2);
    Due.is("forge the last", x.forge(7139, 1), true);
    Due.is("forged", x.names(7139), 14);
  }

  private static void names() {
    MeetHouse x = Houses.equal(3);
    x.witness(x.most(7));
    x.keeper(0, 0);
    Due.is("0", x.names(0), 0);
    Due.is("1", x.names(1), 1);
    Due.is("2", x.names(2), 2);
    for (int k : new int[] {-1, 3, 7140, MAX, MIN}) Due.is("names " + k, x.names(k), -2);
    Due.is("the status is of keeper()", x.status(), 2);
  }

  private static void forge() {
    MeetHouse x = Houses.equal(3);
    Due.refused(x, "no sheet", x.forge(0, 1), 1);
    x.witness(x.most(7));
    Due.is("forge", x.forge(1, 2), true);
    Due.is("accepted", x.status(), 0);
    Due.is("1 xor 2", x.names(1), 3);
    Due.is("back", x.forge(1, 2), true);
    Due.is("1", x.names(1), 1);
    Due.is("all bits", x.forge(0, -1), true);
    Due.is("0 xor -1", x.names(0), -1);
    Due.is("far", x.forge(0, MAX), true);
    Due.is("-1 xor MAX", x.names(0), MIN);
    for (int k : new int[] {-1, 3, 7140, MAX, MIN}) Due.refused(x, "forge " + k, x.forge(k, 1), 1);
    Due.is("forge is no act", x.size(3), 4);
  }

  private static void judge() {
    MeetHouse x = Houses.equal(6);
    int f = x.most(7);
    int one = Houses.told(x, 1);
    Due.is("no sheet has not as many pairs", x.judge(f), -3);
    Due.is("accepted", x.status(), 0);
    Due.is("no sheet beside one quorum", x.judge(one), -2);
    x.witness(f);
    Due.is("true", x.judge(f), -2);
    Due.is("not as many", x.judge(one), -3);
    Due.is("of others as many", x.judge(x.most(56)), 0);
    x.forge(2, 3);
    Due.is("2 names 1, which 5 has not", x.judge(f), 2);
    for (int mask : new int[] {4, -1, 16, 32, MIN, 64, 1 << 16}) {
      x.forge(1, mask);
      Due.is("forged by " + mask, x.judge(f), 1);
      x.forge(1, mask);
    }
    x.forge(2, 3);
    Due.is("true again", x.judge(f), -2);
    int wide = Houses.told(x, 7, 11, 19);
    x.witness(wide);
    x.forge(0, 1);
    Due.is("another keeper of both is fine", x.judge(wide), -2);
    int split = Houses.told(x, 3, 12);
    x.witness(split);
    Due.is("two that don't meet", x.judge(split), 0);
    for (int g : NO_FAMILY) Due.refused(x, "judge " + g, x.judge(g), 1);
  }

  public static void main(String[] args) {
    witness();
    widest();
    names();
    forge();
    judge();
    Due.end();
  }
}
