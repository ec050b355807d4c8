/**
 * A house that designs who must say yes: keepers of unlike strength, families of sets of them that
 * are enough, plans of shares with their loads, weights that show that no plan is lower, and
 * witnesses of meetings. No call throws; a call that is refused says why by status().
 */
public final class MeetHouse {
    /** There is none; refused. */
    public static final int NONE = -1;

    private static final int KEEPERS = 16;
    private static final int GREATEST_STRENGTH = 100;
    private static final int ALL_TENTHS = 10;
    private static final int FAMILIES = 24;
    private static final int QUORUMS = 120;
    private static final int PAIRS = 7140;
    private static final int PLACES = 16;
    private static final int ACTS = 60;
    private static final int GREATEST_PART = 1000;
    private static final int GREATEST_WEIGHT = 1000;
    private static final int GREATEST_LENGTH = 16;
    private static final int GREATEST_DEPTH = 4;

    private static final int ACCEPTED = 0;
    private static final int NONE_SUCH = 1;
    private static final int NUMBER = 2;
    private static final int MANY = 3;
    private static final int NO_ROOM = 4;
    private static final int NO_SET = 5;
    private static final int OTHER_THING = 6;
    private static final int DONT_MEET = 7;

    private static final int TOLD = 0;
    private static final int MOST = 1;
    private static final int GRID = 2;
    private static final int WALL = 3;
    private static final int TREE = 4;
    private static final int PLANE = 5;
    private static final int JOIN = 6;
    private static final int DUAL = 7;
    private static final int THIN = 8;
    private static final int BOTH = 9;
    private static final int BETTER = 10;

    private static final int NOTHING = 0;
    private static final int A_FAMILY = 1;
    private static final int A_SET = 2;
    private static final int A_PLAN = 3;

    private static final int KEEPER_CAME = 0;
    private static final int TENTHS_CHANGED = 1;
    private static final int FAMILY_CAME = 2;
    private static final int WEIGHT_CHANGED = 3;
    private static final int PART_CHANGED = 4;
    private static final int PLAN_CHANGED = 5;
    private static final int PLACE_CHANGED = 6;

    private static final int ALL_MEET = -2;
    private static final int NO_PAIR = -2;
    private static final int ALL_TRUE = -2;
    private static final int OTHER_NUMBER_OF_PAIRS = -3;

    private final Keepers keepers = new Keepers();
    private final Family[] families = new Family[FAMILIES];
    private int familyCount = 0;
    private final int[] toldSets = new int[QUORUMS];
    private int toldCount = 0;
    private final Plan plan = new Plan();
    private final Thing[] places = new Thing[PLACES];
    private final History history = new History();
    private final Sheet sheet = new Sheet();
    private final Gatherer gatherer = new Gatherer();
    private final Fraction fraction = new Fraction();
    private int latestStatus = ACCEPTED;

    public MeetHouse() {
        for (int i = 0; i < FAMILIES; i++) {
            families[i] = new Family();
        }
        for (int i = 0; i < PLACES; i++) {
            places[i] = new Thing();
        }
    }

    // ---- keepers

    public int keeper(int strength, int tenths) {
        if (strength < 1 || strength > GREATEST_STRENGTH || !areTenths(tenths)) {
            return refuse(NUMBER);
        }
        int number = keepers.count;
        if (number < 0 || number >= KEEPERS) {
            return refuse(NO_ROOM);
        }
        keepers.strengths[number] = strength;
        keepers.tenthsThere[number] = tenths;
        keepers.weights[number] = 0;
        keepers.count = number + 1;
        history.open(KEEPER_CAME, number, 0);
        return accept(number);
    }

    public boolean tenths(int keeper, int t) {
        if (!keepers.isThere(keeper)) {
            return refuseFalse(NONE_SUCH);
        }
        if (!areTenths(t)) {
            return refuseFalse(NUMBER);
        }
        history.open(TENTHS_CHANGED, keeper, keepers.tenthsThere[keeper]);
        keepers.tenthsThere[keeper] = t;
        return acceptTrue();
    }

    public int keeperOf(int keeper, int what) {
        if (!keepers.isThere(keeper)) {
            return NONE;
        }
        switch (what) {
            case 0:
                return keepers.strengths[keeper];
            case 1:
                return keepers.tenthsThere[keeper];
            case 2:
                return keepers.weights[keeper];
            default:
                return NONE;
        }
    }

    private static boolean areTenths(int t) {
        return t >= 0 && t <= ALL_TENTHS;
    }

    // ---- families (their number; NONE where refused)

    public int list(int set) {
        if (!keepers.areASet(set)) {
            return refuse(NUMBER);
        }
        if (toldCount < 0 || toldCount >= QUORUMS) {
            return refuse(NO_ROOM);
        }
        toldSets[toldCount] = set;
        toldCount++;
        return accept(toldCount);
    }

    public int told() {
        if (toldCount == 0) {
            return refuse(NO_SET);
        }
        if (!roomForFamily()) {
            return refuse(NO_ROOM);
        }
        gatherer.begin(keepers.count);
        for (int i = 0; i < toldCount && i < QUORUMS; i++) {
            gatherer.pot.put(toldSets[i]);
        }
        toldCount = 0;
        return settleGathered(TOLD);
    }

    public int most(int set) {
        if (!keepers.areASet(set)) {
            return refuse(NUMBER);
        }
        if (!roomForFamily()) {
            return refuse(NO_ROOM);
        }
        gatherer.begin(keepers.count);
        gatherer.gatherMost(keepers, set);
        return settleGathered(MOST);
    }

    public int grid(int rows, int columns, int first) {
        if (rows < 1 || rows > GREATEST_LENGTH || columns < 1 || columns > GREATEST_LENGTH) {
            return refuse(NUMBER);
        }
        gatherer.dropRows();
        for (int i = 0; i < rows && i < GREATEST_LENGTH; i++) {
            gatherer.addRow(columns);
        }
        return settleRows(first, GRID);
    }

    public int wall(int first, int a, int b, int c, int d, int e) {
        boolean allLengths = isLength(a) && isLength(b) && isLength(c) && isLength(d) && isLength(e);
        if (!allLengths || a == 0) {
            return refuse(NUMBER);
        }
        gatherer.dropRows();
        gatherer.addRow(a);
        gatherer.addRow(b);
        gatherer.addRow(c);
        gatherer.addRow(d);
        gatherer.addRow(e);
        return settleRows(first, WALL);
    }

    public int tree(int depth, int first) {
        if (depth < 1 || depth > GREATEST_DEPTH) {
            return refuse(NUMBER);
        }
        int nodes = (1 << depth) - 1;
        if (!keepers.areThere(first, nodes)) {
            return refuse(NONE_SUCH);
        }
        if (!roomForFamily()) {
            return refuse(NO_ROOM);
        }
        gatherer.begin(keepers.count);
        gatherer.gatherTree(nodes, first);
        return settleGathered(TREE);
    }

    public int plane(int order, int first) {
        if (order != 2 && order != 3) {
            return refuse(NUMBER);
        }
        int points = order == 2 ? 7 : 13;
        if (!keepers.areThere(first, points)) {
            return refuse(NONE_SUCH);
        }
        if (!roomForFamily()) {
            return refuse(NO_ROOM);
        }
        gatherer.begin(keepers.count);
        gatherer.gatherPlane(points, first);
        return settleGathered(PLANE);
    }

    public int join(int f, int keeper, int g) {
        Family one = familyAt(f);
        Family other = familyAt(g);
        if (one == null || other == null || !keepers.isThere(keeper)) {
            return refuse(NONE_SUCH);
        }
        if (!roomForFamily()) {
            return refuse(NO_ROOM);
        }
        gatherer.begin(keepers.count);
        gatherer.gatherJoin(one, keeper, other);
        return settleGathered(JOIN);
    }

    public int dual(int f) {
        Family one = familyAt(f);
        if (one == null) {
            return refuse(NONE_SUCH);
        }
        if (!roomForFamily()) {
            return refuse(NO_ROOM);
        }
        gatherer.begin(keepers.count);
        gatherer.gatherMeeting(one);
        return settle(DUAL);
    }

    public int thin(int f, int set) {
        Family one = familyAt(f);
        if (one == null) {
            return refuse(NONE_SUCH);
        }
        if (!roomForFamily()) {
            return refuse(NO_ROOM);
        }
        if (!one.isHeldBy(set)) {
            return refuse(NO_SET);
        }
        gatherer.begin(keepers.count);
        gatherer.gatherWithin(one, set);
        return settleGathered(THIN);
    }

    public int both(int f, int g) {
        Family one = familyAt(f);
        Family other = familyAt(g);
        if (one == null || other == null) {
            return refuse(NONE_SUCH);
        }
        if (!roomForFamily()) {
            return refuse(NO_ROOM);
        }
        gatherer.begin(keepers.count);
        gatherer.gatherBoth(one, other);
        return settleGathered(BOTH);
    }

    public int better(int f) {
        Family one = familyAt(f);
        if (one == null) {
            return refuse(NONE_SUCH);
        }
        if (firstApart(one, one, true) != ALL_MEET) {
            return refuse(DONT_MEET);
        }
        if (!roomForFamily()) {
            return refuse(NO_ROOM);
        }
        gatherer.begin(keepers.count);
        gatherer.gatherBetter(one);
        return settle(BETTER);
    }

    public int family(int f, int what) {
        Family one = familyAt(f);
        if (one == null) {
            return NONE;
        }
        switch (what) {
            case 0:
                return one.kind;
            case 1:
                return one.count;
            case 2:
                return one.allKeepers();
            case 3:
                return one.fewestKeepers();
            case 4:
                return one.mostKeepers();
            default:
                return NONE;
        }
    }

    public int quorum(int f, int i) {
        Family one = familyAt(f);
        if (one == null || i < 0 || i >= one.count) {
            return NONE;
        }
        return one.sets[i];
    }

    private static boolean isLength(int length) {
        return length >= 0 && length <= GREATEST_LENGTH;
    }

    private Family familyAt(int f) {
        if (f < 0 || f >= familyCount || f >= FAMILIES) {
            return null;
        }
        return families[f];
    }

    private boolean roomForFamily() {
        return familyCount >= 0 && familyCount < FAMILIES;
    }

    private int settleRows(int first, int kind) {
        if (!keepers.areThere(first, gatherer.keepersOfRows())) {
            return refuse(NONE_SUCH);
        }
        if (!roomForFamily()) {
            return refuse(NO_ROOM);
        }
        gatherer.begin(keepers.count);
        gatherer.gatherRows(first);
        return settleGathered(kind);
    }

    private int settleGathered(int kind) {
        gatherer.pot.closeUpwards();
        return settle(kind);
    }

    /** The pot is closed upwards by now: its least sets are then found a keeper at a time. */
    private int settle(int kind) {
        gatherer.pot.keepLeast();
        if (gatherer.pot.countSets() > QUORUMS) {
            return refuse(MANY);
        }
        int number = familyCount;
        if (number < 0 || number >= FAMILIES) {
            return refuse(NO_ROOM);
        }
        families[number].take(kind, gatherer.pot);
        familyCount = number + 1;
        history.open(FAMILY_CAME, number, 0);
        return accept(number);
    }

    // ---- what holds, what meets (NONE, 1 if there is no such FAMILY)

    public int has(int f, int set) {
        Family one = familyAt(f);
        if (one == null) {
            return refuse(NONE_SUCH);
        }
        return accept(one.isHeldBy(set) ? 1 : 0);
    }

    public int apart(int f, int g) {
        Family one = familyAt(f);
        Family other = familyAt(g);
        if (one == null || other == null) {
            return refuse(NONE_SUCH);
        }
        return accept(firstApart(one, other, f == g));
    }

    public int hit(int f) {
        Family one = familyAt(f);
        if (one == null) {
            return refuse(NONE_SUCH);
        }
        return accept(smallestMeeting(one));
    }

    public int falls(int f) {
        Family one = familyAt(f);
        if (one == null) {
            return refuse(NONE_SUCH);
        }
        return accept(Integer.bitCount(smallestMeeting(one)) - 1);
    }

    public int liars(int f, boolean twice) {
        Family one = familyAt(f);
        if (one == null) {
            return refuse(NONE_SUCH);
        }
        int shared = one.fewestShared();
        if (shared == 0) {
            return accept(NONE);
        }
        return accept(twice ? (shared - 1) / 2 : shared - 1);
    }

    public long chance(int f) {
        Family one = familyAt(f);
        if (one == null) {
            return refuse(NONE_SUCH);
        }
        gatherer.begin(keepers.count);
        gatherer.gatherHolding(one);
        latestStatus = ACCEPTED;
        return gatherer.pot.chanceOfSets(keepers);
    }

    private static int firstApart(Family one, Family other, boolean sameFamily) {
        for (int i = 0; i < one.count; i++) {
            for (int j = sameFamily ? i + 1 : 0; j < other.count; j++) {
                if ((one.sets[i] & other.sets[j]) == 0) {
                    return 1000 * i + j;
                }
            }
        }
        return ALL_MEET;
    }

    private int smallestMeeting(Family one) {
        gatherer.begin(keepers.count);
        gatherer.gatherMeeting(one);
        gatherer.pot.keepLeast();
        return gatherer.pot.smallestSet();
    }

    // ---- plans and weights

    public boolean even(int f) {
        Family one = familyAt(f);
        if (one == null) {
            return refuseFalse(NONE_SUCH);
        }
        history.open(PLAN_CHANGED, 0, 0).thing.plan.become(plan);
        plan.beEven(f, one.count);
        return acceptTrue();
    }

    public boolean part(int i, int p) {
        if (!plan.hasPart(i)) {
            return refuseFalse(NONE_SUCH);
        }
        if (p < 0 || p > GREATEST_PART || plan.allParts() - plan.parts[i] + p == 0) {
            return refuseFalse(NUMBER);
        }
        history.open(PART_CHANGED, i, plan.parts[i]);
        plan.parts[i] = p;
        return acceptTrue();
    }

    public int partOf(int i) {
        return plan.hasPart(i) ? plan.parts[i] : NONE;
    }

    public int load(int what) {
        Family one = familyAt(plan.familyNumber);
        if (one == null) {
            return NONE;
        }
        switch (what) {
            case 0:
                return plan.familyNumber;
            case 1:
                reckonLoad(one, mostLoaded(one));
                return fraction.upper;
            case 2:
                reckonLoad(one, mostLoaded(one));
                return fraction.lower;
            case 3:
                return mostLoaded(one);
            default:
                return NONE;
        }
    }

    public int loadOf(int keeper, boolean lower) {
        Family one = familyAt(plan.familyNumber);
        if (one == null || !keepers.isThere(keeper)) {
            return NONE;
        }
        reckonLoad(one, keeper);
        return fraction.side(lower);
    }

    public boolean weight(int keeper, int w) {
        if (!keepers.isThere(keeper)) {
            return refuseFalse(NONE_SUCH);
        }
        if (w < 0 || w > GREATEST_WEIGHT) {
            return refuseFalse(NUMBER);
        }
        history.open(WEIGHT_CHANGED, keeper, keepers.weights[keeper]);
        keepers.weights[keeper] = w;
        return acceptTrue();
    }

    public int bound(int f, boolean lower) {
        Family one = familyAt(f);
        if (one == null) {
            return refuse(NONE_SUCH);
        }
        reckonBound(one);
        return accept(fraction.side(lower));
    }

    public int proved() {
        Family one = familyAt(plan.familyNumber);
        if (one == null) {
            return refuse(NONE_SUCH);
        }
        reckonBound(one);
        int boundUpper = fraction.upper;
        int boundLower = fraction.lower;
        reckonLoad(one, mostLoaded(one));
        boolean same = fraction.upper == boundUpper && fraction.lower == boundLower;
        return accept(same ? 0 : 1);
    }

    /** All parts are the same below each load: so a load is greater by its parts times the other's strength. */
    private int mostLoaded(Family one) {
        int best = 0;
        int bestParts = plan.partsWith(one, 0);
        for (int k = 1; k < keepers.count && k < KEEPERS; k++) {
            int parts = plan.partsWith(one, k);
            if (parts * keepers.strengths[best] > bestParts * keepers.strengths[k]) {
                best = k;
                bestParts = parts;
            }
        }
        return best;
    }

    private void reckonLoad(Family one, int keeper) {
        int strength = keepers.isThere(keeper) ? keepers.strengths[keeper] : 0;
        fraction.become(plan.partsWith(one, keeper), plan.allParts() * strength);
    }

    private void reckonBound(Family one) {
        int least = keepers.weightOf(one.sets[0]);
        for (int i = 1; i < one.count; i++) {
            least = Math.min(least, keepers.weightOf(one.sets[i]));
        }
        fraction.become(least, keepers.weightTimesStrength());
    }

    // ---- witnesses

    public int witness(int f) {
        Family one = familyAt(f);
        if (one == null) {
            return refuse(NONE_SUCH);
        }
        sheet.write(one);
        return accept(sheet.count);
    }

    public int names(int k) {
        return sheet.hasPair(k) ? sheet.pairs[k] : NO_PAIR;
    }

    public boolean forge(int k, int mask) {
        if (!sheet.hasPair(k)) {
            return refuseFalse(NONE_SUCH);
        }
        sheet.pairs[k] ^= mask;
        return acceptTrue();
    }

    public int judge(int f) {
        Family one = familyAt(f);
        if (one == null) {
            return refuse(NONE_SUCH);
        }
        if (sheet.count != one.countPairs()) {
            return accept(OTHER_NUMBER_OF_PAIRS);
        }
        return accept(sheet.firstFalsePair(one));
    }

    // ---- the case

    public int lay(int k, int sort, int n) {
        Thing place = placeAt(k);
        if (place == null) {
            return refuse(NONE_SUCH);
        }
        if (sort < NOTHING || sort > A_PLAN) {
            return refuse(NUMBER);
        }
        if ((sort == A_FAMILY && familyAt(n) == null) || (sort == A_PLAN && !plan.isThere())) {
            return refuse(NONE_SUCH);
        }
        if (sort == A_SET && !keepers.areASet(n)) {
            return refuse(NUMBER);
        }
        history.open(PLACE_CHANGED, k, 0).thing.become(place);
        place.sort = sort;
        place.number = n;
        if (sort == A_PLAN) {
            place.plan.become(plan);
        }
        return accept(1);
    }

    public int lies(int k) {
        Thing place = placeAt(k);
        if (place == null) {
            return refuse(NONE_SUCH);
        }
        return accept(place.sort);
    }

    public int taken(int k, int sort, int i) {
        Thing place = placeAt(k);
        if (place == null) {
            return refuse(NONE_SUCH);
        }
        if (sort < A_FAMILY || sort > A_PLAN) {
            return refuse(NUMBER);
        }
        if (place.sort != sort) {
            return refuse(OTHER_THING);
        }
        if (sort != A_PLAN) {
            return accept(place.number);
        }
        if (!place.plan.hasPart(i)) {
            return refuse(NONE_SUCH);
        }
        return accept(place.plan.parts[i]);
    }

    public int copy(int j, int i, int k, int m, int n) {
        Thing from = placeAt(j);
        Thing to = placeAt(k);
        if (from == null || to == null) {
            return refuse(NONE_SUCH);
        }
        if (from.sort != A_PLAN || to.sort != A_PLAN) {
            return refuse(OTHER_THING);
        }
        if (!from.plan.hasRun(i, n) || !to.plan.hasRun(m, n)) {
            return refuse(NUMBER);
        }
        history.open(PLACE_CHANGED, k, 0).thing.become(to);
        to.plan.overlay(m, from.plan, i, n);
        return accept(1);
    }

    public int use(int k) {
        Thing place = placeAt(k);
        if (place == null) {
            return refuse(NONE_SUCH);
        }
        if (place.sort != A_PLAN) {
            return refuse(OTHER_THING);
        }
        if (place.plan.allParts() == 0) {
            return refuse(NO_SET);
        }
        history.open(PLAN_CHANGED, 0, 0).thing.plan.become(plan);
        plan.become(place.plan);
        return accept(1);
    }

    public int undo() {
        Act act = history.closeLatest();
        if (act == null) {
            return 0;
        }
        takeBack(act);
        return 1;
    }

    public int size(int what) {
        switch (what) {
            case 0:
                return keepers.count;
            case 1:
                return familyCount;
            case 2:
                return toldCount;
            case 3:
                return history.held;
            case 4:
                return sheet.count;
            default:
                return NONE;
        }
    }

    public int status() {
        return latestStatus;
    }

    private Thing placeAt(int k) {
        if (k < 0 || k >= PLACES) {
            return null;
        }
        return places[k];
    }

    private void takeBack(Act act) {
        switch (act.kind) {
            case KEEPER_CAME:
                keepers.count = act.which;
                // a set of the list may have the keeper that goes
                toldCount = 0;
                break;
            case TENTHS_CHANGED:
                if (keepers.isThere(act.which)) {
                    keepers.tenthsThere[act.which] = act.before;
                }
                break;
            case FAMILY_CAME:
                familyCount = act.which;
                break;
            case WEIGHT_CHANGED:
                if (keepers.isThere(act.which)) {
                    keepers.weights[act.which] = act.before;
                }
                break;
            case PART_CHANGED:
                if (plan.hasPart(act.which)) {
                    plan.parts[act.which] = act.before;
                }
                break;
            case PLAN_CHANGED:
                plan.become(act.thing.plan);
                break;
            default:
                takeBackPlace(act);
                break;
        }
    }

    private void takeBackPlace(Act act) {
        Thing place = placeAt(act.which);
        if (place != null) {
            place.become(act.thing);
        }
    }

    private int refuse(int why) {
        latestStatus = why;
        return NONE;
    }

    private boolean refuseFalse(int why) {
        latestStatus = why;
        return false;
    }

    private int accept(int answer) {
        latestStatus = ACCEPTED;
        return answer;
    }

    private boolean acceptTrue() {
        latestStatus = ACCEPTED;
        return true;
    }

    /** The keepers, one behind the other; what stands behind count is of no matter. */
    private static final class Keepers {
        int count = 0;
        final int[] strengths = new int[KEEPERS];
        final int[] tenthsThere = new int[KEEPERS];
        final int[] weights = new int[KEEPERS];

        boolean isThere(int keeper) {
            return keeper >= 0 && keeper < count && keeper < KEEPERS;
        }

        boolean areThere(int first, int number) {
            return first >= 0 && first < count && number >= 0 && number <= count - first;
        }

        boolean areASet(int set) {
            int all = (1 << count) - 1;
            return set != 0 && (set & ~all) == 0;
        }

        int strengthOf(int set) {
            return sumOf(strengths, set);
        }

        int weightOf(int set) {
            return sumOf(weights, set);
        }

        private static int sumOf(int[] numbers, int set) {
            int sum = 0;
            for (int k = 0; k < KEEPERS && k < numbers.length; k++) {
                if (((set >> k) & 1) != 0) {
                    sum += numbers[k];
                }
            }
            return sum;
        }

        int weightTimesStrength() {
            int sum = 0;
            for (int k = 0; k < count && k < KEEPERS; k++) {
                sum += weights[k] * strengths[k];
            }
            return sum;
        }

        /** A keeper that isn't there counts as one that always is: no quorum has it, so no chance is changed. */
        int tenthsOrAll(int keeper) {
            return isThere(keeper) ? tenthsThere[keeper] : ALL_TENTHS;
        }
    }

    /** Sets of which none is within another, by their numbers; count never goes above QUORUMS. */
    private static final class Family {
        int kind = TOLD;
        int count = 0;
        final int[] sets = new int[QUORUMS];

        void take(int newKind, Pot pot) {
            kind = newKind;
            count = 0;
            for (int set = pot.next(0); set >= 0 && count < QUORUMS; set = pot.next(set + 1)) {
                sets[count] = set;
                count++;
            }
        }

        boolean isHeldBy(int set) {
            for (int i = 0; i < count; i++) {
                if ((sets[i] & ~set) == 0) {
                    return true;
                }
            }
            return false;
        }

        int allKeepers() {
            int all = 0;
            for (int i = 0; i < count; i++) {
                all |= sets[i];
            }
            return all;
        }

        int fewestKeepers() {
            int fewest = KEEPERS;
            for (int i = 0; i < count; i++) {
                fewest = Math.min(fewest, Integer.bitCount(sets[i]));
            }
            return fewest;
        }

        int mostKeepers() {
            int most = 0;
            for (int i = 0; i < count; i++) {
                most = Math.max(most, Integer.bitCount(sets[i]));
            }
            return most;
        }

        int fewestShared() {
            if (count == 1) {
                return Integer.bitCount(sets[0]);
            }
            int fewest = KEEPERS;
            for (int i = 0; i < count; i++) {
                for (int j = i + 1; j < count; j++) {
                    fewest = Math.min(fewest, Integer.bitCount(sets[i] & sets[j]));
                }
            }
            return fewest;
        }

        int countPairs() {
            return count * (count - 1) / 2;
        }
    }

    /** Parts for the quorums of a family; without a family (NONE) it has no parts. */
    private static final class Plan {
        int familyNumber = NONE;
        int count = 0;
        final int[] parts = new int[QUORUMS];

        boolean isThere() {
            return familyNumber != NONE;
        }

        void beEven(int number, int quorums) {
            familyNumber = number;
            count = Math.min(quorums, QUORUMS);
            for (int i = 0; i < count; i++) {
                parts[i] = 1;
            }
        }

        void become(Plan other) {
            familyNumber = other.familyNumber;
            count = other.count;
            for (int i = 0; i < count; i++) {
                parts[i] = other.parts[i];
            }
        }

        boolean hasPart(int i) {
            return i >= 0 && i < count;
        }

        boolean hasRun(int start, int number) {
            return start >= 0 && number >= 0 && start <= count && number <= count - start;
        }

        /** Within one plan the end that is read last is the one that is written last. */
        void overlay(int to, Plan other, int from, int number) {
            boolean backwards = to > from;
            for (int step = 0; step < number; step++) {
                int i = backwards ? number - 1 - step : step;
                if (hasPart(to + i) && other.hasPart(from + i)) {
                    parts[to + i] = other.parts[from + i];
                }
            }
        }

        int allParts() {
            int sum = 0;
            for (int i = 0; i < count; i++) {
                sum += parts[i];
            }
            return sum;
        }

        int partsWith(Family one, int keeper) {
            int sum = 0;
            for (int i = 0; i < count && i < one.count; i++) {
                if (((one.sets[i] >> keeper) & 1) != 0) {
                    sum += parts[i];
                }
            }
            return sum;
        }
    }

    /** What lies in a place: the number is of a family or a set, the plan counts only where the sort is A_PLAN. */
    private static final class Thing {
        int sort = NOTHING;
        int number = 0;
        final Plan plan = new Plan();

        void become(Thing other) {
            sort = other.sort;
            number = other.number;
            if (sort == A_PLAN) {
                plan.become(other.plan);
            }
        }
    }

    /** An act with what stood there before it. */
    private static final class Act {
        int kind = KEEPER_CAME;
        int which = 0;
        int before = 0;
        final Thing thing = new Thing();
    }

    /** The latest acts in a ring: the oldest makes room. */
    private static final class History {
        final Act[] acts = new Act[ACTS];
        int first = 0;
        int held = 0;

        History() {
            for (int i = 0; i < ACTS; i++) {
                acts[i] = new Act();
            }
        }

        Act open(int kind, int which, int before) {
            if (held < ACTS) {
                held++;
            } else {
                first = (first + 1) % ACTS;
            }
            Act act = acts[(first + held - 1) % ACTS];
            act.kind = kind;
            act.which = which;
            act.before = before;
            return act;
        }

        Act closeLatest() {
            if (held <= 0) {
                return null;
            }
            held--;
            return acts[(first + held) % ACTS];
        }
    }

    /** The pairs of a witness, which may have been forged. */
    private static final class Sheet {
        int count = 0;
        final int[] pairs = new int[PAIRS];

        boolean hasPair(int k) {
            return k >= 0 && k < count;
        }

        void write(Family one) {
            count = 0;
            for (int i = 0; i < one.count; i++) {
                for (int j = i + 1; j < one.count && count < PAIRS; j++) {
                    pairs[count] = leastKeeper(one.sets[i] & one.sets[j]);
                    count++;
                }
            }
        }

        int firstFalsePair(Family one) {
            int k = 0;
            for (int i = 0; i < one.count; i++) {
                for (int j = i + 1; j < one.count && k < count; j++) {
                    if (!isKeeperOf(pairs[k], one.sets[i] & one.sets[j])) {
                        return k;
                    }
                    k++;
                }
            }
            return ALL_TRUE;
        }

        private static int leastKeeper(int set) {
            return set == 0 ? NONE : Integer.bitCount((set & -set) - 1);
        }

        private static boolean isKeeperOf(int named, int set) {
            return named >= 0 && named < KEEPERS && ((set >> named) & 1) != 0;
        }
    }

    /** A fraction in lowest terms; 0 / 1 if a side of it is 0. */
    private static final class Fraction {
        int upper = 0;
        int lower = 1;

        void become(int above, int below) {
            int common = greatestCommon(above, below);
            if (above <= 0 || below <= 0 || common <= 0) {
                upper = 0;
                lower = 1;
                return;
            }
            upper = above / common;
            lower = below / common;
        }

        int side(boolean below) {
            return below ? lower : upper;
        }

        /** Euclid's way: of two ints it takes fewer than fifty turns. */
        private static int greatestCommon(int a, int b) {
            int greater = a;
            int less = b;
            for (int turn = 0; turn < 64 && less != 0; turn++) {
                int rest = greater % less;
                greater = less;
                less = rest;
            }
            return greater;
        }
    }

    /**
     * A heap of sets: bit s & 63 of word s >>> 6 tells whether set s is in. All sets that differ in a
     * keeper are thereby treated a word at a time, and only the words that the keepers need are used.
     */
    private static final class Pot {
        private static final int LOW_KEEPERS = 6;
        private static final int LOW_SETS = 64;
        private static final int WORDS = 1024;
        /** For each low keeper the bits of the sets that don't have it. */
        private static final long[] WITHOUT = {
            0x5555555555555555L, 0x3333333333333333L, 0x0f0f0f0f0f0f0f0fL,
            0x00ff00ff00ff00ffL, 0x0000ffff0000ffffL, 0x00000000ffffffffL};

        final long[] words = new long[WORDS];
        final long[] lowChances = new long[LOW_SETS];
        int used = 1;

        void clear(int keeperCount) {
            int high = Math.min(Math.max(keeperCount, LOW_KEEPERS), KEEPERS) - LOW_KEEPERS;
            used = 1 << high;
            for (int i = 0; i < used; i++) {
                words[i] = 0L;
            }
        }

        void put(int set) {
            int at = set >>> LOW_KEEPERS;
            if (at < used) {
                words[at] |= 1L << (set & 63);
            }
        }

        /** Puts a set in with all that it is within. */
        void putUpwards(int set) {
            long low = closedWord(1L << (set & 63));
            int high = set >>> LOW_KEEPERS;
            for (int i = high; i < used; i = (i + 1) | high) {
                words[i] |= low;
            }
        }

        void closeUpwards() {
            for (int i = 0; i < used; i++) {
                words[i] = closedWord(words[i]);
            }
            for (int step = 1; step < used; step <<= 1) {
                for (int i = step; i < used; i = (i + 1) | step) {
                    words[i] |= words[i - step];
                }
            }
        }

        /** Of a pot that is closed upwards; from the last word down, as each looks at words before it. */
        void keepLeast() {
            for (int i = used - 1; i >= 0; i--) {
                long above = grownWord(words[i]);
                for (int step = 1; step <= i; step <<= 1) {
                    if ((i & step) != 0) {
                        above |= words[i - step];
                    }
                }
                words[i] &= ~above;
            }
        }

        /** A set meets all of a closed pot if its rest isn't in; the rests stand in the order turned round. */
        void turnIntoMeeting() {
            for (int i = 0, j = used - 1; i <= j; i++, j--) {
                long front = ~turnedWord(words[i]);
                long back = ~turnedWord(words[j]);
                words[i] = back;
                words[j] = front;
            }
        }

        /** Puts in, by their numbers, sets that are out while their rest is, until too many came. */
        void complete(int enough) {
            int came = 0;
            for (int set = nextOpen(0); set >= 0 && came <= enough; set = nextOpen(set)) {
                putUpwards(set);
                came++;
            }
        }

        /**
         * No set before one that was open can open again: so the search goes on in its word. A keeper of no
         * quorum opens and closes nothing, and the least open set has none: so the rest may be that of all.
         */
        private int nextOpen(int from) {
            for (int i = from >>> LOW_KEEPERS; i < used; i++) {
                long open = ~words[i] & ~turnedWord(words[used - 1 - i]);
                if (open != 0L) {
                    return (i << LOW_KEEPERS) + lowestBit(open);
                }
            }
            return NONE;
        }

        int countSets() {
            int sum = 0;
            for (int i = 0; i < used; i++) {
                sum += Long.bitCount(words[i]);
            }
            return sum;
        }

        /** The set with the least number, from one on; NONE behind the last. */
        int next(int from) {
            int start = from >>> LOW_KEEPERS;
            for (int i = start; i < used; i++) {
                long word = i == start ? words[i] & (-1L << (from & 63)) : words[i];
                if (word != 0L) {
                    return (i << LOW_KEEPERS) + lowestBit(word);
                }
            }
            return NONE;
        }

        int smallestSet() {
            int best = next(0);
            int set = best;
            for (int turn = 0; turn < LOW_SETS * WORDS && set >= 0; turn++) {
                if (Integer.bitCount(set) < Integer.bitCount(best)) {
                    best = set;
                }
                set = next(set + 1);
            }
            return best;
        }

        /** In parts of 10 to the 16th; each word becomes its own chance, then they are folded keeper by keeper. */
        long chanceOfSets(Keepers keepers) {
            reckonLowChances(keepers);
            for (int i = 0; i < used; i++) {
                words[i] = chanceOfWord(words[i]);
            }
            long scale = 1L;
            for (int keeper = KEEPERS - 1; keeper >= LOW_KEEPERS; keeper--) {
                int step = 1 << (keeper - LOW_KEEPERS);
                if (step >= used) {
                    scale *= ALL_TENTHS;
                } else {
                    fold(step, keepers.tenthsOrAll(keeper));
                }
            }
            return words[0] * scale;
        }

        private void fold(int step, int tenths) {
            for (int i = 0; i < step && i + step < used; i++) {
                words[i] = words[i] * (ALL_TENTHS - tenths) + words[i + step] * tenths;
            }
        }

        private void reckonLowChances(Keepers keepers) {
            lowChances[0] = 1L;
            for (int keeper = 0; keeper < LOW_KEEPERS; keeper++) {
                int tenths = keepers.tenthsOrAll(keeper);
                int step = 1 << keeper;
                for (int i = 0; i < step; i++) {
                    lowChances[i + step] = lowChances[i] * tenths;
                    lowChances[i] = lowChances[i] * (ALL_TENTHS - tenths);
                }
            }
        }

        private long chanceOfWord(long word) {
            long sum = 0L;
            long rest = word;
            for (int turn = 0; turn < LOW_SETS && rest != 0L; turn++) {
                sum += lowChances[lowestBit(rest) & 63];
                rest &= rest - 1L;
            }
            return sum;
        }

        private static int lowestBit(long word) {
            return Long.bitCount((word & -word) - 1L);
        }

        private static long closedWord(long word) {
            long closed = word;
            for (int keeper = 0; keeper < LOW_KEEPERS; keeper++) {
                closed |= (closed & WITHOUT[keeper]) << (1 << keeper);
            }
            return closed;
        }

        /** The sets that have one keeper more than a set of the word. */
        private static long grownWord(long word) {
            long grown = 0L;
            for (int keeper = 0; keeper < LOW_KEEPERS; keeper++) {
                grown |= (word & WITHOUT[keeper]) << (1 << keeper);
            }
            return grown;
        }

        /** Each set of the word becomes the rest of the low keepers. */
        private static long turnedWord(long word) {
            long turned = word;
            for (int keeper = 0; keeper < LOW_KEEPERS; keeper++) {
                int step = 1 << keeper;
                turned = ((turned & WITHOUT[keeper]) << step) | ((turned >>> step) & WITHOUT[keeper]);
            }
            return turned;
        }
    }

    /** Brings into the pot what each kind of family tells. */
    private static final class Gatherer {
        /** A tree of depth 4 has 305 sets at all its nodes; rows have fewer ways to choose. */
        private static final int WAYS = 320;

        final Pot pot = new Pot();
        final int[] ways = new int[WAYS];
        final int[] starts = new int[KEEPERS];
        final int[] lengths = new int[GREATEST_LENGTH];
        int rowCount = 0;
        boolean rowsEnded = false;
        final int[] bits = new int[KEEPERS];
        final int[] strengths = new int[KEEPERS];
        int strongCount = 0;
        int found = 0;

        void begin(int keeperCount) {
            pot.clear(keeperCount);
        }

        /** Strong keepers first: then the one that makes a set enough is its weakest, and without any it isn't. */
        void gatherMost(Keepers keepers, int set) {
            strongCount = 0;
            for (int k = 0; k < keepers.count && k < KEEPERS; k++) {
                if (((set >> k) & 1) != 0) {
                    orderByStrength(1 << k, keepers.strengths[k]);
                }
            }
            found = 0;
            int whole = keepers.strengthOf(set);
            takeStrong(this, 0, 0, whole, whole);
        }

        private void orderByStrength(int bit, int strength) {
            if (strongCount < 0 || strongCount >= KEEPERS) {
                return;
            }
            int at = strongCount;
            for (; at > 0 && strengths[at - 1] < strength; at--) {
                bits[at] = bits[at - 1];
                strengths[at] = strengths[at - 1];
            }
            bits[at] = bit;
            strengths[at] = strength;
            strongCount++;
        }

        /** Lacking is the whole's strength less twice that of the chosen: below 0 they are enough. */
        private static void takeStrong(Gatherer to, int at, int chosen, int lacking, int left) {
            boolean canBeEnough = 2 * left > lacking;
            if (at < 0 || at >= to.strongCount || at >= KEEPERS || !canBeEnough || to.found > QUORUMS) {
                return;
            }
            int strength = to.strengths[at];
            int with = chosen | to.bits[at];
            if (2 * strength > lacking) {
                to.pot.put(with);
                to.found++;
            } else {
                takeStrong(to, at + 1, with, lacking - 2 * strength, left - strength);
            }
            takeStrong(to, at + 1, chosen, lacking, left - strength);
        }

        void dropRows() {
            rowCount = 0;
            rowsEnded = false;
        }

        /** A length of 0 ends the rows. */
        void addRow(int length) {
            if (length <= 0 || rowCount < 0 || rowCount >= GREATEST_LENGTH) {
                rowsEnded = true;
            }
            if (!rowsEnded) {
                lengths[rowCount] = length;
                rowCount++;
            }
        }

        int keepersOfRows() {
            int sum = 0;
            for (int row = 0; row < rowCount; row++) {
                sum += lengths[row];
            }
            return sum;
        }

        /** From the last row up, as the ways to choose one of each row below grow with each row. */
        void gatherRows(int first) {
            int start = first + keepersOfRows();
            int count = 1;
            ways[0] = 0;
            for (int row = rowCount - 1; row >= 0; row--) {
                int length = lengths[row];
                start -= length;
                int whole = ((1 << length) - 1) << start;
                for (int i = 0; i < count; i++) {
                    pot.put(whole | ways[i]);
                }
                if (row > 0) {
                    count = chooseOne(count, start, length);
                }
            }
        }

        /** Backwards, so that no way is written over before it is read. */
        private int chooseOne(int count, int start, int length) {
            int more = count * length;
            if (count < 0 || length <= 0 || more > WAYS) {
                return count;
            }
            for (int to = more - 1; to >= 0; to--) {
                ways[to] = ways[to / length] | (1 << (start + to % length));
            }
            return more;
        }

        /** From the last node up: the sets of node c stand from starts[c] to starts[c - 1]. */
        void gatherTree(int nodes, int first) {
            int end = 0;
            for (int node = Math.min(nodes, KEEPERS - 1); node >= 1; node--) {
                starts[node] = end;
                int self = 1 << (first + node - 1);
                if (2 * node > nodes) {
                    end = addWay(end, self);
                } else {
                    end = addNode(node, self, end);
                }
            }
            for (int i = starts[1]; i >= 0 && i < end && i < WAYS; i++) {
                pot.put(ways[i]);
            }
        }

        private int addNode(int node, int self, int start) {
            int end = start;
            int right = 2 * node + 1;
            if (node < 1 || right >= KEEPERS) {
                return end;
            }
            int rightStart = starts[right];
            int leftStart = starts[right - 1];
            int leftEnd = starts[right - 2];
            for (int i = rightStart; i >= 0 && i < leftEnd && i < WAYS; i++) {
                end = addWay(end, self | ways[i]);
            }
            for (int i = leftStart; i >= 0 && i < leftEnd && i < WAYS; i++) {
                for (int j = rightStart; j >= 0 && j < leftStart && j < WAYS; j++) {
                    end = addWay(end, ways[i] | ways[j]);
                }
            }
            return end;
        }

        private int addWay(int end, int set) {
            if (end < 0 || end >= WAYS) {
                return end;
            }
            ways[end] = set;
            return end + 1;
        }

        void gatherPlane(int points, int first) {
            for (int i = 0; i < points; i++) {
                int line = point(i, points) | point(i + 1, points) | point(i + 3, points);
                if (points == 13) {
                    line |= point(i + 9, points);
                }
                pot.put(line << first);
            }
        }

        private static int point(int number, int points) {
            return 1 << (number < points ? number : number - points);
        }

        void gatherJoin(Family one, int keeper, Family other) {
            int joined = 1 << keeper;
            for (int i = 0; i < one.count; i++) {
                if ((one.sets[i] & joined) == 0) {
                    pot.put(one.sets[i]);
                } else {
                    putWithEach(one.sets[i] & ~joined, other);
                }
            }
        }

        void gatherBoth(Family one, Family other) {
            for (int i = 0; i < one.count; i++) {
                putWithEach(one.sets[i], other);
            }
        }

        private void putWithEach(int set, Family other) {
            for (int j = 0; j < other.count; j++) {
                pot.put(set | other.sets[j]);
            }
        }

        void gatherWithin(Family one, int set) {
            for (int i = 0; i < one.count; i++) {
                if ((one.sets[i] & ~set) == 0) {
                    pot.put(one.sets[i]);
                }
            }
        }

        /** All sets that hold a quorum. */
        void gatherHolding(Family one) {
            gatherWithin(one, -1);
            pot.closeUpwards();
        }

        /** All sets that meet each quorum. */
        void gatherMeeting(Family one) {
            gatherHolding(one);
            pot.turnIntoMeeting();
        }

        /** No other set is within one that came, nor will be: so more than QUORUMS of them are MANY. */
        void gatherBetter(Family one) {
            gatherHolding(one);
            pot.complete(QUORUMS);
        }
    }
}
