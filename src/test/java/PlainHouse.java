import java.math.BigInteger;
import java.util.ArrayDeque;
import java.util.ArrayList;
import java.util.Arrays;
import java.util.Collection;
import java.util.Deque;
import java.util.List;
import java.util.TreeSet;

/** The document taken word by word, without a thought of speed: what MeetHouse is held against. */
final class PlainHouse {
  /** What acts change; never changed itself, so that undoing is going back to an older one. */
  static final class State {
    List<int[]> keepers = new ArrayList<>();
    List<int[]> families = new ArrayList<>();
    List<Integer> kinds = new ArrayList<>();
    int planFamily = -1;
    int[] parts = new int[0];
    int[] sorts = new int[16];
    int[] numbers = new int[16];
    int[][] laidParts = new int[16][];

    State copied() {
      State s = new State();
      for (int[] k : keepers) s.keepers.add(k.clone());
      s.families.addAll(families);
      s.kinds.addAll(kinds);
      s.planFamily = planFamily;
      s.parts = parts.clone();
      s.sorts = sorts.clone();
      s.numbers = numbers.clone();
      for (int i = 0; i < 16; i++) s.laidParts[i] = laidParts[i] == null ? null : laidParts[i].clone();
      return s;
    }
  }

  private State now = new State();
  private final Deque<State> before = new ArrayDeque<>();
  private final List<Integer> told = new ArrayList<>();
  private int[] sheet = new int[0];
  private int status = 0;

  private void act() {
    before.push(now.copied());
    if (before.size() > 60) before.removeLast();
  }

  private int no(int why) { status = why; return -1; }
  private boolean not(int why) { status = why; return false; }
  private int yes(int answer) { status = 0; return answer; }
  private boolean isTrue() { status = 0; return true; }

  private boolean isKeeper(int k) { return k >= 0 && k < now.keepers.size(); }
  private boolean areKeepers(int first, int n) {
    for (int i = 0; i < n; i++) if (!isKeeper(first + i)) return false;
    return true;
  }
  private boolean isSet(int set) {
    if (set == 0) return false;
    for (int k = 0; k < 32; k++) if ((set >>> k & 1) == 1 && !isKeeper(k)) return false;
    return true;
  }
  private boolean isFamily(int f) { return f >= 0 && f < now.families.size(); }
  private boolean isFull() { return now.families.size() >= 24; }
  private static boolean within(int a, int b) { return (a & b) == a; }

  int keeper(int strength, int tenths) {
    if (strength < 1 || strength > 100 || tenths < 0 || tenths > 10) return no(2);
    if (now.keepers.size() == 16) return no(4);
    act();
    now.keepers.add(new int[] {strength, tenths, 0});
    return yes(now.keepers.size() - 1);
  }

  boolean tenths(int keeper, int t) {
    if (!isKeeper(keeper)) return not(1);
    if (t < 0 || t > 10) return not(2);
    act();
    now.keepers.get(keeper)[1] = t;
    return isTrue();
  }

  int keeperOf(int keeper, int what) {
    return isKeeper(keeper) && what >= 0 && what <= 2 ? now.keepers.get(keeper)[what] : -1;
  }

  int list(int set) {
    if (!isSet(set)) return no(2);
    if (told.size() == 120) return no(4);
    told.add(set);
    return yes(told.size());
  }

  private static int[] least(Collection<Integer> sets) {
    List<Integer> bySize = new ArrayList<>(new TreeSet<>(sets));
    bySize.sort((a, b) -> Integer.compare(Integer.bitCount(a), Integer.bitCount(b)));
    List<Integer> kept = new ArrayList<>();
    for (int s : bySize) {
      boolean is = true;
      for (int k : kept) if (within(k, s)) { is = false; break; }
      if (is) kept.add(s);
      if (kept.size() > 120) break;
    }
    int[] out = new int[kept.size()];
    for (int i = 0; i < out.length; i++) out[i] = kept.get(i);
    Arrays.sort(out);
    return out;
  }

  private int make(int kind, Collection<Integer> sets) {
    int[] quorums = least(sets);
    if (quorums.length > 120) return no(3);
    act();
    now.families.add(quorums);
    now.kinds.add(kind);
    return yes(now.families.size() - 1);
  }

  int told() {
    if (told.isEmpty()) return no(5);
    if (isFull()) return no(4);
    int made = make(0, told);
    told.clear();
    return made;
  }

  int most(int set) {
    if (!isSet(set)) return no(2);
    if (isFull()) return no(4);
    int whole = 0;
    for (int k = 0; k < now.keepers.size(); k++) if ((set >> k & 1) == 1) whole += now.keepers.get(k)[0];
    List<Integer> sets = new ArrayList<>();
    for (int s = 1; s < 1 << now.keepers.size(); s++) {
      if (!within(s, set)) continue;
      int sum = 0;
      for (int k = 0; k < now.keepers.size(); k++) if ((s >> k & 1) == 1) sum += now.keepers.get(k)[0];
      if (2 * sum > whole) sets.add(s);
    }
    return make(1, sets);
  }

  private static void rowsBelow(int[][] rows, int row, int set, List<Integer> out) {
    if (row == rows.length) { out.add(set); return; }
    for (int k : rows[row]) rowsBelow(rows, row + 1, set | 1 << k, out);
  }

  private int rows(int kind, int[] lengths, int first) {
    int sum = 0;
    for (int n : lengths) sum += n;
    if (first > 99 || !areKeepers(first, sum)) return no(1);
    if (isFull()) return no(4);
    int[][] rows = new int[lengths.length][];
    int k = first;
    for (int r = 0; r < rows.length; r++) {
      rows[r] = new int[lengths[r]];
      for (int i = 0; i < lengths[r]; i++) rows[r][i] = k++;
    }
    List<Integer> sets = new ArrayList<>();
    for (int r = 0; r < rows.length; r++) {
      int all = 0;
      for (int x : rows[r]) all |= 1 << x;
      rowsBelow(rows, r + 1, all, sets);
    }
    return make(kind, sets);
  }

  int grid(int rows, int columns, int first) {
    if (rows < 1 || rows > 16 || columns < 1 || columns > 16) return no(2);
    int[] lengths = new int[rows];
    Arrays.fill(lengths, columns);
    return rows(2, lengths, first);
  }

  int wall(int first, int a, int b, int c, int d, int e) {
    int[] all = {a, b, c, d, e};
    for (int n : all) if (n < 0 || n > 16) return no(2);
    if (a == 0) return no(2);
    int n = 0;
    while (n < 5 && all[n] != 0) n++;
    return rows(3, Arrays.copyOf(all, n), first);
  }

  private static List<Integer> enough(int node, int level, int depth, int first) {
    List<Integer> out = new ArrayList<>();
    int self = 1 << (first + node - 1);
    if (level == depth) { out.add(self); return out; }
    List<Integer> left = enough(2 * node, level + 1, depth, first);
    List<Integer> right = enough(2 * node + 1, level + 1, depth, first);
    for (int l : left) out.add(self | l);
    for (int r : right) out.add(self | r);
    for (int l : left) for (int r : right) out.add(l | r);
    return out;
  }

  int tree(int depth, int first) {
    if (depth < 1 || depth > 4) return no(2);
    if (first > 99 || !areKeepers(first, (1 << depth) - 1)) return no(1);
    if (isFull()) return no(4);
    return make(4, enough(1, 1, depth, first));
  }

  int plane(int order, int first) {
    if (order != 2 && order != 3) return no(2);
    int n = order == 2 ? 7 : 13;
    if (first > 99 || !areKeepers(first, n)) return no(1);
    if (isFull()) return no(4);
    List<Integer> sets = new ArrayList<>();
    for (int i = 0; i < n; i++) {
      int s = 1 << first + i | 1 << first + (i + 1) % n | 1 << first + (i + 3) % n;
      if (order == 3) s |= 1 << first + (i + 9) % n;
      sets.add(s);
    }
    return make(5, sets);
  }

  int join(int f, int keeper, int g) {
    if (!isFamily(f) || !isFamily(g) || !isKeeper(keeper)) return no(1);
    if (isFull()) return no(4);
    List<Integer> sets = new ArrayList<>();
    for (int q : now.families.get(f)) {
      if ((q >> keeper & 1) == 0) sets.add(q);
      else for (int r : now.families.get(g)) sets.add(q - (1 << keeper) | r);
    }
    return make(6, sets);
  }

  /** All sets of keepers that meet each QUORUM of f. */
  private List<Integer> meeting(int f) {
    List<Integer> sets = new ArrayList<>();
    for (int s = 0; s < 1 << now.keepers.size(); s++) {
      boolean meets = true;
      for (int q : now.families.get(f)) if ((q & s) == 0) { meets = false; break; }
      if (meets) sets.add(s);
    }
    return sets;
  }

  int dual(int f) {
    if (!isFamily(f)) return no(1);
    if (isFull()) return no(4);
    return make(7, meeting(f));
  }

  int thin(int f, int set) {
    if (!isFamily(f)) return no(1);
    if (isFull()) return no(4);
    List<Integer> sets = new ArrayList<>();
    for (int q : now.families.get(f)) if (within(q, set)) sets.add(q);
    return sets.isEmpty() ? no(5) : make(8, sets);
  }

  int both(int f, int g) {
    if (!isFamily(f) || !isFamily(g)) return no(1);
    if (isFull()) return no(4);
    List<Integer> sets = new ArrayList<>();
    for (int q : now.families.get(f)) for (int r : now.families.get(g)) sets.add(q | r);
    return make(9, sets);
  }

  private static boolean holds(int set, List<Integer> quorums) {
    for (int q : quorums) if (within(q, set)) return true;
    return false;
  }

  int better(int f) {
    if (!isFamily(f)) return no(1);
    int[] old = now.families.get(f);
    int all = 0;
    for (int i = 0; i < old.length; i++) {
      all |= old[i];
      for (int j = i + 1; j < old.length; j++) if ((old[i] & old[j]) == 0) return no(7);
    }
    if (isFull()) return no(4);
    List<Integer> sets = new ArrayList<>();
    for (int q : old) sets.add(q);
    for (int s = 0; s <= all; s++)
      if (within(s, all) && !holds(s, sets) && !holds(all - s, sets)) sets.add(s);
    return make(10, sets);
  }

  int family(int f, int what) {
    if (!isFamily(f)) return -1;
    int all = 0, fewest = 99, most = 0;
    for (int q : now.families.get(f)) {
      all |= q;
      fewest = Math.min(fewest, Integer.bitCount(q));
      most = Math.max(most, Integer.bitCount(q));
    }
    int[] answers = {now.kinds.get(f), now.families.get(f).length, all, fewest, most};
    return what >= 0 && what < 5 ? answers[what] : -1;
  }

  int quorum(int f, int i) {
    return isFamily(f) && i >= 0 && i < now.families.get(f).length ? now.families.get(f)[i] : -1;
  }

  int has(int f, int set) {
    if (!isFamily(f)) return no(1);
    for (int q : now.families.get(f)) if (within(q, set)) return yes(1);
    return yes(0);
  }

  int apart(int f, int g) {
    if (!isFamily(f) || !isFamily(g)) return no(1);
    int[] a = now.families.get(f), b = now.families.get(g);
    for (int i = 0; i < a.length; i++)
      for (int j = 0; j < b.length; j++)
        if ((f != g || i < j) && (a[i] & b[j]) == 0) return yes(1000 * i + j);
    return yes(-2);
  }

  private int smallest(int f) {
    int best = -1;
    for (int s : meeting(f)) if (best == -1 || Integer.bitCount(s) < Integer.bitCount(best)) best = s;
    return best;
  }

  int hit(int f) { return isFamily(f) ? yes(smallest(f)) : no(1); }

  int falls(int f) { return isFamily(f) ? yes(Integer.bitCount(smallest(f)) - 1) : no(1); }

  int liars(int f, boolean twice) {
    if (!isFamily(f)) return no(1);
    int[] a = now.families.get(f);
    int shared = a.length == 1 ? Integer.bitCount(a[0]) : 99;
    for (int i = 0; i < a.length; i++)
      for (int j = 0; j < a.length; j++)
        if (i != j) shared = Math.min(shared, Integer.bitCount(a[i] & a[j]));
    int most = -1;
    for (int n = 0; n < 20; n++) if (shared > (twice ? 2 * n : n)) most = n;
    return yes(most);
  }

  long chance(int f) {
    if (!isFamily(f)) return no(1);
    int n = now.keepers.size();
    long sum = 0;
    for (int s = 0; s < 1 << n; s++) {
      boolean held = false;
      for (int q : now.families.get(f)) if (within(q, s)) { held = true; break; }
      if (!held) continue;
      long p = 1;
      for (int k = 0; k < 16; k++) {
        int t = k < n ? now.keepers.get(k)[1] : 10;
        p *= k >= n || (s >> k & 1) == 1 ? t : 10 - t;
      }
      sum += p;
    }
    status = 0;
    return sum;
  }

  boolean even(int f) {
    if (!isFamily(f)) return not(1);
    act();
    now.planFamily = f;
    now.parts = new int[now.families.get(f).length];
    Arrays.fill(now.parts, 1);
    return isTrue();
  }

  private static boolean allZero(int[] parts) {
    for (int p : parts) if (p != 0) return false;
    return true;
  }

  boolean part(int i, int p) {
    if (now.planFamily == -1 || i < 0 || i >= now.parts.length) return not(1);
    int[] next = now.parts.clone();
    next[i] = p;
    if (p < 0 || p > 1000 || allZero(next)) return not(2);
    act();
    now.parts = next;
    return isTrue();
  }

  int partOf(int i) { return i >= 0 && i < now.parts.length ? now.parts[i] : -1; }

  private static long[] lowest(long up, long low) {
    if (up == 0 || low == 0) return new long[] {0, 1};
    long d = BigInteger.valueOf(up).gcd(BigInteger.valueOf(low)).longValue();
    return new long[] {up / d, low / d};
  }

  private long[] keeperLoad(int k) {
    long mine = 0, all = 0;
    for (int i = 0; i < now.parts.length; i++) {
      all += now.parts[i];
      if ((now.families.get(now.planFamily)[i] >> k & 1) == 1) mine += now.parts[i];
    }
    return lowest(mine, all * now.keepers.get(k)[0]);
  }

  private int heaviest() {
    int best = 0;
    for (int k = 1; k < now.keepers.size(); k++) {
      long[] a = keeperLoad(k), b = keeperLoad(best);
      if (a[0] * b[1] > b[0] * a[1]) best = k;
    }
    return best;
  }

  int load(int what) {
    if (now.planFamily == -1) return -1;
    if (what == 0) return now.planFamily;
    if (what == 1) return (int) keeperLoad(heaviest())[0];
    if (what == 2) return (int) keeperLoad(heaviest())[1];
    return what == 3 ? heaviest() : -1;
  }

  int loadOf(int keeper, boolean lower) {
    if (now.planFamily == -1 || !isKeeper(keeper)) return -1;
    return (int) keeperLoad(keeper)[lower ? 1 : 0];
  }

  boolean weight(int keeper, int w) {
    if (!isKeeper(keeper)) return not(1);
    if (w < 0 || w > 1000) return not(2);
    act();
    now.keepers.get(keeper)[2] = w;
    return isTrue();
  }

  private long[] familyBound(int f) {
    long least = Long.MAX_VALUE, all = 0;
    for (int q : now.families.get(f)) {
      long sum = 0;
      for (int k = 0; k < now.keepers.size(); k++) if ((q >> k & 1) == 1) sum += now.keepers.get(k)[2];
      least = Math.min(least, sum);
    }
    for (int[] k : now.keepers) all += (long) k[2] * k[0];
    return lowest(least, all);
  }

  int bound(int f, boolean lower) {
    return isFamily(f) ? yes((int) familyBound(f)[lower ? 1 : 0]) : no(1);
  }

  int proved() {
    if (now.planFamily == -1) return no(1);
    long[] load = keeperLoad(heaviest()), bound = familyBound(now.planFamily);
    return yes(load[0] * bound[1] > bound[0] * load[1] ? 1 : 0);
  }

  int witness(int f) {
    if (!isFamily(f)) return no(1);
    int[] a = now.families.get(f);
    sheet = new int[a.length * (a.length - 1) / 2];
    int n = 0;
    for (int i = 0; i < a.length; i++)
      for (int j = i + 1; j < a.length; j++)
        sheet[n++] = (a[i] & a[j]) == 0 ? -1 : Integer.numberOfTrailingZeros(a[i] & a[j]);
    return yes(n);
  }

  int names(int k) { return k >= 0 && k < sheet.length ? sheet[k] : -2; }

  boolean forge(int k, int mask) {
    if (k < 0 || k >= sheet.length) return not(1);
    sheet[k] ^= mask;
    return isTrue();
  }

  int judge(int f) {
    if (!isFamily(f)) return no(1);
    int[] a = now.families.get(f);
    if (sheet.length != a.length * (a.length - 1) / 2) return yes(-3);
    int n = 0;
    for (int i = 0; i < a.length; i++)
      for (int j = i + 1; j < a.length; j++, n++) {
        boolean named = false;
        for (int k = 0; k < 16; k++) named |= sheet[n] == k && (a[i] & a[j] & 1 << k) != 0;
        if (!named) return yes(n);
      }
    return yes(-2);
  }

  int lay(int k, int sort, int n) {
    if (k < 0 || k > 15) return no(1);
    if (sort < 0 || sort > 3) return no(2);
    if (sort == 1 && !isFamily(n) || sort == 3 && now.planFamily == -1) return no(1);
    if (sort == 2 && !isSet(n)) return no(2);
    act();
    now.sorts[k] = sort;
    now.numbers[k] = sort == 3 ? now.planFamily : n;
    now.laidParts[k] = sort == 3 ? now.parts.clone() : null;
    return yes(1);
  }

  int lies(int k) { return k < 0 || k > 15 ? no(1) : yes(now.sorts[k]); }

  int taken(int k, int sort, int i) {
    if (k < 0 || k > 15) return no(1);
    if (sort < 1 || sort > 3) return no(2);
    if (now.sorts[k] != sort) return no(6);
    if (sort != 3) return yes(now.numbers[k]);
    int[] parts = now.laidParts[k];
    return i < 0 || i >= parts.length ? no(1) : yes(parts[i]);
  }

  int copy(int j, int i, int k, int m, int n) {
    if (j < 0 || j > 15 || k < 0 || k > 15) return no(1);
    if (now.sorts[j] != 3 || now.sorts[k] != 3) return no(6);
    if (i < 0 || m < 0 || n < 0) return no(2);
    if ((long) i + n > now.laidParts[j].length || (long) m + n > now.laidParts[k].length) return no(2);
    act();
    int[] from = now.laidParts[j].clone();
    for (int x = 0; x < n; x++) now.laidParts[k][m + x] = from[i + x];
    return yes(1);
  }

  int use(int k) {
    if (k < 0 || k > 15) return no(1);
    if (now.sorts[k] != 3) return no(6);
    if (allZero(now.laidParts[k])) return no(5);
    act();
    now.planFamily = now.numbers[k];
    now.parts = now.laidParts[k].clone();
    return yes(1);
  }

  int undo() {
    if (before.isEmpty()) return 0;
    State old = before.pop();
    if (old.keepers.size() < now.keepers.size()) told.clear();
    now = old;
    return 1;
  }

  int size(int what) {
    int[] sizes = {now.keepers.size(), now.families.size(), told.size(), before.size(), sheet.length};
    return what >= 0 && what < 5 ? sizes[what] : -1;
  }

  int status() { return status; }
}
