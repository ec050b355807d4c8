import java.lang.management.ManagementFactory;

/** What a run makes: an object is small, and no call makes anything, so that any run keeps within its room. */
public final class RoomTest {
  private static final com.sun.management.ThreadMXBean THREADS =
      (com.sun.management.ThreadMXBean) ManagementFactory.getThreadMXBean();

  private static long made() {
    return THREADS.getThreadAllocatedBytes(Thread.currentThread().getId());
  }

  /** Each call of the face that makes or reckons something, on wide families of sixteen keepers. */
  private static void calls(MeetHouse x) {
    for (int k = 0; k < 16; k++) x.keeper(1 + k % 3, 5);
    for (int i = 1; i <= 120; i++) x.list(i * 541 & 65535);
    int f = x.told();
    int g = x.grid(4, 4, 0);
    x.wall(0, 2, 3, 4, 0, 0);
    x.tree(3, 0);
    x.tree(4, 0);
    int p = x.plane(3, 0);
    x.most(127);
    x.most(65535);
    x.join(p, 3, g);
    x.join(g, 3, f);
    x.dual(p);
    x.both(f, g);
    x.better(p);
    x.better(g);
    x.thin(g, -1);
    x.hit(f);
    x.falls(g);
    x.liars(g, true);
    x.chance(f);
    x.apart(g, p);
    x.even(g);
    x.part(3, 77);
    x.load(1);
    x.loadOf(3, true);
    x.weight(3, 9);
    x.bound(g, false);
    x.proved();
    x.witness(g);
    x.forge(0, 1);
    x.judge(g);
    for (int k = 0; k < 16; k++) x.lay(k, 3, 0);
    x.copy(0, 0, 1, 1, 5);
    x.use(1);
    for (int i = 0; i < 61; i++) x.undo();
  }

  public static void main(String[] args) {
    calls(new MeetHouse());
    long before = made();
    MeetHouse x = new MeetHouse();
    long object = made() - before;
    before = made();
    calls(x);
    long run = made() - before;
    Due.is("an object takes " + object + " bytes, at most 150000", object <= 150000, true);
    Due.is("its calls take " + run + " bytes, at most 4000", run <= 4000, true);
    System.out.println("an object: " + object + " bytes; a run of calls: " + run + " bytes");
    Due.end();
  }
}
