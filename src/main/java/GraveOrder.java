/**
 * Graves in order: which rows of graves leave the kinds of things that lay in them the fewest gaps.
 *
 * Whether a grave can follow, and which kinds have a gap there, depends only on which graves are ahead
 * of it and not on how those stand. So orders are searched over sets of graves (256 at most) instead of
 * one by one.
 */
public final class GraveOrder {
    public static final int NONE = -1, BAD = -2, NOT = -3, FULL = -4;

    private static final int MOST_GRAVES = 8;
    private static final int MOST_SETS = 1 << MOST_GRAVES;
    private static final int KINDS = 10;
    private static final int ALL_KINDS = (1 << KINDS) - 1;
    private static final int MOST_WEIGHT = 3;
    private static final int MOST_OVERS = 16;
    private static final int MOST_BYTES = 40;
    private static final int MOST_TELLINGS = 60;
    private static final int LAST_TIME = 999;
    private static final int LAST_YEAR = 99;
    private static final int MOST_TOLD_GAPS = 999;
    private static final int SHEETS = 4;
    private static final int LAST_FORM = 2;
    private static final int MOST_ITEMS = 40;
    private static final int LAST_COUNT = 8;

    private static final int LEAST_INT = 1 << 31;
    private static final long LEAST_LONG = 1L << 63;

    private static final int FOUND_NULL = 1;
    private static final int FOUND_INDEX = 2;
    private static final int FOUND_CAST = 3;
    private static final int FOUND_STORE = 4;
    private static final int FOUND_SIZE = 5;

    private final Yard yard = new Yard();
    private final Line line = new Line();
    private final Finds finds = new Finds();
    private final Orders orders = new Orders(yard);
    private final FirstRow firstRow = new FirstRow(yard, orders.row);
    private final Sheet[] sheets = new Sheet[SHEETS];
    private int asOfTime = LAST_TIME;
    private int latestFinding = 0;

    public GraveOrder() {
        for (int s = 0; s < SHEETS; s++) {
            sheets[s] = new Sheet();
        }
    }

    // ---- graves, finds

    public int grave(int from, int to) {
        if (!within(from, 0, LAST_YEAR) || !within(to, from, LAST_YEAR)) {
            return BAD;
        }
        if (yard.graves >= MOST_GRAVES) {
            return FULL;
        }
        orders.stale = true;
        return yard.dig(from, to);
    }

    public int robbed(int grave, int v) {
        if (!isGrave(grave) || !within(v, 0, 1)) {
            return BAD;
        }
        int was = (yard.robbedBits >> grave) & 1;
        yard.robbedBits = (yard.robbedBits & ~(1 << grave)) | (v << grave);
        orders.stale = true;
        return was;
    }

    public int weight(int kind, int v) {
        if (!isKind(kind) || !within(v, 0, MOST_WEIGHT)) {
            return BAD;
        }
        orders.stale = true;
        return yard.reweigh(kind, v);
    }

    public int over(int a, int b) {
        if (!isPair(a, b)) {
            return BAD;
        }
        if (yard.overs >= MOST_OVERS) {
            return FULL;
        }
        yard.below[a] |= 1 << b;
        yard.overs++;
        orders.stale = true;
        return yard.overs;
    }

    public int type(int b) {
        if (!within(b, 0, 255)) {
            return BAD;
        }
        if (line.length >= MOST_BYTES) {
            return FULL;
        }
        line.bytes[line.length] = b;
        line.length++;
        return line.length;
    }

    public int wipe() {
        int had = line.length;
        line.length = 0;
        return had;
    }

    public int fault() {
        return line.firstFault(yard.graves);
    }

    public int tell(int time) {
        if (!canTellAt(time)) {
            return BAD;
        }
        if (line.firstFault(yard.graves) != NONE) {
            return NOT;
        }
        int told = tellLine(time);
        line.length = 0;
        findsChanged();
        return told;
    }

    public int read(int s, int grave, int time) {
        if (!isSheet(s) || !isGrave(grave) || !canTellAt(time)) {
            return BAD;
        }
        if (sheets[s].lost) {
            return finding(FOUND_NULL);
        }
        int told = tellSheet(sheets[s], grave, time);
        findsChanged();
        return told;
    }

    public int asOf(int time) {
        if (!within(time, 0, LAST_TIME)) {
            return BAD;
        }
        int was = asOfTime;
        asOfTime = time;
        findsChanged();
        return was;
    }

    public int has(int grave) {
        return isGrave(grave) ? yard.kinds[grave] : BAD;
    }

    // ---- orders

    public int gaps(int s, int what) {
        if (!isSheet(s) || !within(what, 0, 1)) {
            return BAD;
        }
        if (sheets[s].lost) {
            return finding(FOUND_NULL);
        }
        if (!yard.isOrder(sheets[s].items, sheets[s].size)) {
            return NOT;
        }
        if (what == 0) {
            return firstRow.gapsOfOrder(sheets[s].items);
        }
        return bit(yard.canBe(sheets[s].items));
    }

    public int best(int what) {
        if (!within(what, 0, 2)) {
            return BAD;
        }
        if (!orders.settle()) {
            return NOT;
        }
        if (what == 0) {
            return orders.behind[0];
        }
        return what == 1 ? orders.ways[0] : bit(firstRow.turnedCanBe());
    }

    public int first(int place) {
        if (place < 0) {
            return BAD;
        }
        if (!orders.settle()) {
            return NOT;
        }
        return place < yard.graves ? orders.row[place] : NONE;
    }

    public int sure(int a, int b) {
        if (!isPair(a, b)) {
            return BAD;
        }
        if (!orders.settle()) {
            return NOT;
        }
        return bit(orders.alwaysAhead(a, b));
    }

    public int places(int grave) {
        if (!isGrave(grave)) {
            return BAD;
        }
        if (!orders.settle()) {
            return NOT;
        }
        return orders.placesInBest(grave);
    }

    public int spread(int gaps, int what) {
        if (!within(gaps, 0, MOST_TOLD_GAPS) || !within(what, 0, 1)) {
            return BAD;
        }
        orders.settle();
        orders.settleSpread();
        return what == 0 ? orders.withGaps(gaps) : orders.withGapsUpTo(gaps);
    }

    public long mean(int what) {
        if (!within(what, 0, 1)) {
            return longRefusal(BAD);
        }
        if (!orders.settle()) {
            return longRefusal(NOT);
        }
        orders.settleSpread();
        return inLowestTerms(orders.gapsOfAll(), orders.withGapsUpTo(MOST_TOLD_GAPS), what);
    }

    // ---- kinds, phases, years

    public int leftOut() {
        return orders.settle() ? orders.fewestLeftOut() : NOT;
    }

    public int mended(int kind) {
        if (!isKind(kind)) {
            return BAD;
        }
        return orders.settle() ? firstRow.mending(kind) : NOT;
    }

    public int phases(int n, int grave) {
        if (!within(n, 1, MOST_GRAVES) || (grave != NONE && !isGrave(grave))) {
            return BAD;
        }
        if (n > yard.graves || !orders.settle()) {
            return NOT;
        }
        int cuts = firstRow.bestCuts(n);
        return grave == NONE ? firstRow.straddles(cuts) : firstRow.partOf(grave, cuts);
    }

    public int years(int of, int k, int end) {
        if (!within(of, 0, 1) || !within(end, 0, 1) || !(of == 0 ? isGrave(k) : isKind(k))) {
            return BAD;
        }
        if (!orders.settle()) {
            return NOT;
        }
        if (of == 0) {
            return firstRow.yearOfGrave(k, end);
        }
        return ((yard.kindsOfAll() >> k) & 1) == 0 ? NOT : firstRow.yearOfKind(k, end);
    }

    // ---- new ones, alike ones

    public int fresh(int kinds, int what) {
        if (!within(kinds, 0, ALL_KINDS) || !within(what, 0, 1)) {
            return BAD;
        }
        if (!orders.settle()) {
            return NOT;
        }
        int fewest = firstRow.fewestGapsWith(kinds);
        return what == 0 ? firstRow.placesWith(kinds, fewest) : fewest;
    }

    public long alike(int a, int b, int what) {
        if (!isPair(a, b) || !within(what, 0, 1)) {
            return longRefusal(BAD);
        }
        int below = yard.weightOfEither(a, b);
        return below == 0 ? longRefusal(NOT) : inLowestTerms(yard.weightOfBoth(a, b), below, what);
    }

    public int nearest(int grave) {
        return isGrave(grave) ? yard.mostAlike(grave) : BAD;
    }

    // ---- sheets

    public int sheet(int s, int form, int n) {
        if (!isSheet(s) || !within(form, 0, LAST_FORM) || n > MOST_ITEMS) {
            return BAD;
        }
        if (n < 0) {
            return finding(FOUND_SIZE);
        }
        sheets[s].renew(form, n);
        return n;
    }

    public int lose(int s) {
        if (!isSheet(s)) {
            return BAD;
        }
        if (sheets[s].lost) {
            return finding(FOUND_NULL);
        }
        sheets[s].lost = true;
        return sheets[s].size;
    }

    public int put(int s, int form, int i, int v) {
        if (!isSheet(s) || !within(form, 0, LAST_FORM)) {
            return BAD;
        }
        int found = sheets[s].findingAt(form, i);
        if (found != 0) {
            return finding(found);
        }
        sheets[s].store(i, v);
        return 1;
    }

    public int get(int s, int form, int i) {
        if (!isSheet(s) || !within(form, 0, LAST_FORM)) {
            return LEAST_INT;
        }
        int found = sheets[s].findingAt(form, i);
        if (found != 0) {
            latestFinding = found;
            return LEAST_INT;
        }
        return sheets[s].items[i];
    }

    public int copy(int s, int i, int t, int j, int n) {
        if (!isSheet(s) || !isSheet(t)) {
            return BAD;
        }
        if (sheets[s].lost || sheets[t].lost) {
            return finding(FOUND_NULL);
        }
        if (sheets[s].form != sheets[t].form) {
            return finding(FOUND_STORE);
        }
        if (!sheets[s].holdsRun(i, n) || !sheets[t].holdsRun(j, n)) {
            return finding(FOUND_INDEX);
        }
        System.arraycopy(sheets[s].items, i, sheets[t].items, j, n);
        return 1;
    }

    public int write(int s) {
        if (!isSheet(s)) {
            return BAD;
        }
        if (sheets[s].lost) {
            return finding(FOUND_NULL);
        }
        if (!orders.settle()) {
            return NOT;
        }
        int written = Math.min(sheets[s].size, yard.graves);
        for (int i = 0; i < written; i++) {
            sheets[s].store(i, orders.row[i]);
        }
        return written;
    }

    public int count(int what) {
        switch (what) {
            case 0: return yard.graves;
            case 1: return finds.size;
            case 2: return yard.kindsOfAll();
            case 3: return yard.allFinds();
            case 4: return yard.overs;
            case 5: return line.length;
            case 6: return asOfTime;
            case 7: return yard.robbedBits;
            case LAST_COUNT: return latestFinding;
            default: return BAD;
        }
    }

    public long digest() {
        long h = 17;
        for (int what = 0; what < LAST_COUNT; what++) {
            h = 31 * h + count(what);
        }
        h = 31 * h + fault();
        h = digestOfOrders(digestOfGraves(h));
        for (int kind = 0; kind < KINDS; kind++) {
            h = 31 * h + mended(kind);
        }
        return h;
    }

    private long digestOfGraves(long before) {
        long h = before;
        for (int g = 0; g < yard.graves; g++) {
            h = 31 * h + has(g);
            h = 31 * h + first(g);
            h = 31 * h + places(g);
            h = 31 * h + years(0, g, 0);
            h = 31 * h + years(0, g, 1);
            h = 31 * h + nearest(g);
        }
        return h;
    }

    private long digestOfOrders(long before) {
        long h = before;
        for (int what = 0; what < 3; what++) {
            h = 31 * h + best(what);
        }
        h = 31 * h + spread(0, 1);
        h = 31 * h + mean(0);
        h = 31 * h + mean(1);
        h = 31 * h + leftOut();
        return 31 * h + phases(2, NONE);
    }

    private static boolean within(int v, int least, int most) {
        return v >= least && v <= most;
    }

    private static int bit(boolean v) {
        return v ? 1 : 0;
    }

    private static long longRefusal(int refusal) {
        return LEAST_LONG - refusal;
    }

    /** The part of a fraction above (0) or below (1) its line. */
    private static long inLowestTerms(int above, int below, int part) {
        int common = Math.max(1, commonDivisor(above, below));
        return (part == 0 ? above : below) / common;
    }

    private static int commonDivisor(int a, int b) {
        int more = a;
        int less = b;
        // Euclid needs fewer than fifty steps for any two ints.
        for (int step = 0; step < 50 && less != 0; step++) {
            int rest = more % less;
            more = less;
            less = rest;
        }
        return more;
    }

    private boolean isGrave(int grave) {
        return within(grave, 0, yard.graves - 1);
    }

    private boolean isPair(int a, int b) {
        return isGrave(a) && isGrave(b) && a != b;
    }

    private static boolean isKind(int kind) {
        return within(kind, 0, KINDS - 1);
    }

    private static boolean isSheet(int s) {
        return within(s, 0, SHEETS - 1);
    }

    private boolean canTellAt(int time) {
        return within(time, finds.timeBefore(), LAST_TIME);
    }

    private int finding(int number) {
        latestFinding = number;
        return -10 - number;
    }

    private void findsChanged() {
        finds.layInto(yard.kinds, asOfTime);
        orders.stale = true;
    }

    private int tellLine(int time) {
        int state = Line.AT_GRAVE;
        int grave = 0;
        int told = 0;
        for (int i = 0; i < line.length; i++) {
            int b = line.bytes[i];
            int next = Line.follow(state, b, yard.graves);
            if (state == Line.AT_GRAVE) {
                grave = b - '0';
            }
            if (next == Line.BEHIND_KIND && finds.keep(time, grave, b - '0', state == Line.AT_KIND)) {
                told++;
            }
            state = next;
        }
        return told;
    }

    private int tellSheet(Sheet sheet, int grave, int time) {
        int told = 0;
        for (int k = 0; k < KINDS && k < sheet.size; k++) {
            int v = sheet.items[k];
            if (!within(v, 0, 1) || !finds.keep(time, grave, k, v == 1)) {
                break;
            }
            told++;
        }
        return told;
    }

    /** A text of finds; what may come next in it is one of the states. */
    private static final class Line {
        static final int AT_GRAVE = 0;
        static final int AT_COLON = 1;
        static final int AT_KIND = 2;
        static final int AT_MISSING_KIND = 3;
        static final int BEHIND_KIND = 4;
        static final int STUCK = 5;

        final int[] bytes = new int[MOST_BYTES];
        int length = 0;

        static int follow(int state, int b, int graves) {
            boolean figure = b >= '0' && b <= '9';
            switch (state) {
                case AT_GRAVE:
                    return figure && b - '0' < graves ? AT_COLON : STUCK;
                case AT_COLON:
                    return b == ':' ? AT_KIND : STUCK;
                case AT_KIND:
                    if (b == '-') {
                        return AT_MISSING_KIND;
                    }
                    return figure ? BEHIND_KIND : STUCK;
                case AT_MISSING_KIND:
                    return figure ? BEHIND_KIND : STUCK;
                case BEHIND_KIND:
                    if (b == ',') {
                        return AT_KIND;
                    }
                    return b == ';' ? AT_GRAVE : STUCK;
                default:
                    return STUCK;
            }
        }

        int firstFault(int graves) {
            int state = AT_GRAVE;
            for (int i = 0; i < length; i++) {
                state = follow(state, bytes[i], graves);
                if (state == STUCK) {
                    return i;
                }
            }
            return state == BEHIND_KIND ? NONE : length;
        }
    }

    /** All tellings, in the order in which they were told, so that times never fall. */
    private static final class Finds {
        final int[] times = new int[MOST_TELLINGS];
        final int[] graves = new int[MOST_TELLINGS];
        final int[] kinds = new int[MOST_TELLINGS];
        final boolean[] there = new boolean[MOST_TELLINGS];
        int size = 0;

        /** A call that tells nothing leaves no time behind, so it is that of the last telling. */
        int timeBefore() {
            return size > 0 ? times[size - 1] : 0;
        }

        boolean keep(int time, int grave, int kind, boolean isThere) {
            if (size >= MOST_TELLINGS) {
                return false;
            }
            times[size] = time;
            graves[size] = grave;
            kinds[size] = kind;
            there[size] = isThere;
            size++;
            return true;
        }

        void layInto(int[] kindsOfGraves, int asOf) {
            for (int g = 0; g < MOST_GRAVES; g++) {
                kindsOfGraves[g] = 0;
            }
            for (int i = 0; i < size && times[i] <= asOf; i++) {
                int kind = 1 << kinds[i];
                int had = kindsOfGraves[graves[i]];
                kindsOfGraves[graves[i]] = there[i] ? had | kind : had & ~kind;
            }
        }
    }

    /** The graves with all that tells of them, and the weights of kinds. */
    private static final class Yard {
        final int[] from = new int[MOST_GRAVES];
        final int[] to = new int[MOST_GRAVES];
        /** Of each grave those over which it lies, as bits. */
        final int[] below = new int[MOST_GRAVES];
        /** Of each grave the kinds that it has, as bits. */
        final int[] kinds = new int[MOST_GRAVES];
        int graves = 0;
        int robbedBits = 0;
        int overs = 0;
        // Weights are kept as two rows of bits, so that all kinds of a set are weighed at once.
        int weightOnes = ALL_KINDS;
        int weightTwos = 0;

        int dig(int firstYear, int lastYear) {
            from[graves] = firstYear;
            to[graves] = lastYear;
            graves++;
            return graves - 1;
        }

        int reweigh(int kind, int v) {
            int was = weigh(1 << kind);
            weightOnes = (weightOnes & ~(1 << kind)) | ((v & 1) << kind);
            weightTwos = (weightTwos & ~(1 << kind)) | ((v >> 1) << kind);
            return was;
        }

        int weigh(int kindBits) {
            return Integer.bitCount(kindBits & weightOnes) + 2 * Integer.bitCount(kindBits & weightTwos);
        }

        int kindsOfAll() {
            int all = 0;
            for (int g = 0; g < graves; g++) {
                all |= kinds[g];
            }
            return all;
        }

        int allFinds() {
            int all = 0;
            for (int g = 0; g < graves; g++) {
                all += Integer.bitCount(kinds[g]);
            }
            return all;
        }

        boolean isOrder(int[] items, int size) {
            if (size != graves) {
                return false;
            }
            int met = 0;
            for (int i = 0; i < graves; i++) {
                int g = items[i];
                if (g < 0 || g >= graves || ((met >> g) & 1) != 0) {
                    return false;
                }
                met |= 1 << g;
            }
            return true;
        }

        /** Whether an order can be; the earliest years are enough to see whether there are any. */
        boolean canBe(int[] order) {
            int ahead = 0;
            int year = 0;
            for (int i = 0; i < graves; i++) {
                int g = order[i];
                year = Math.max(year, from[g]);
                if (year > to[g] || (below[g] & ~ahead) != 0) {
                    return false;
                }
                ahead |= 1 << g;
            }
            return true;
        }

        int weightOfBoth(int a, int b) {
            return weigh(kinds[a] & kinds[b]);
        }

        int weightOfEither(int a, int b) {
            return weigh(kinds[a] | kinds[b]);
        }

        int mostAlike(int grave) {
            int nearest = NONE;
            int above = 0;
            int below = 1;
            for (int g = 0; g < graves; g++) {
                int either = weightOfEither(grave, g);
                if (g == grave || either == 0) {
                    continue;
                }
                int both = weightOfBoth(grave, g);
                if (nearest == NONE || both * below > above * either) {
                    nearest = g;
                    above = both;
                    below = either;
                }
            }
            return nearest;
        }
    }

    /** The search over sets of graves: a set stands for all orders of its graves, which come ahead. */
    private static final class Orders {
        private static final int CANNOT = -1;
        /** Above all gaps that there can be, and twice of it still an int. */
        static final int NO_WAY = 1000000;
        /** A kind has a gap at six of eight graves at most, ten kinds weigh three each. */
        private static final int MOST_GAPS = 180;
        /** Four graves have so many orders; eight are looked at in two halves. */
        private static final int HALF_ORDERS = 24;

        final Yard yard;
        /** The kinds that some grave of a set has. */
        final int[] seen = new int[MOST_SETS];
        /** The least year that the last grave of a set can have. */
        final int[] year = new int[MOST_SETS];
        /** Of a set and the grave that comes next: the kinds with a gap there, or CANNOT. */
        final int[] steps = new int[MOST_SETS * MOST_GRAVES];
        /** The fewest gaps from no grave to a set. */
        final int[] ahead = new int[MOST_SETS];
        /** The fewest gaps from a set to all graves, and how many ways have them. */
        final int[] behind = new int[MOST_SETS];
        final int[] ways = new int[MOST_SETS];
        /** The first of the best orders. */
        final int[] row = new int[MOST_GRAVES];
        final int[] withGapsRow = new int[MOST_GAPS + 1];
        final int[] firstHalf = new int[HALF_ORDERS];
        final int[] secondHalf = new int[HALF_ORDERS];
        final boolean[] reached = new boolean[MOST_SETS];
        boolean stale = true;
        boolean spreadStale = true;
        boolean leftOutStale = true;
        int leftOutBits = 0;

        Orders(Yard yard) {
            this.yard = yard;
        }

        /** Whether some order can be; all that is told of orders stands then. */
        boolean settle() {
            if (stale) {
                fillSets();
                fillSteps();
                fillAhead();
                fillBehind();
                fillRow();
                stale = false;
                spreadStale = true;
                leftOutStale = true;
            }
            return ways[0] > 0;
        }

        private int allGraves() {
            return (1 << yard.graves) - 1;
        }

        private void fillSets() {
            int all = allGraves();
            seen[0] = 0;
            year[0] = 0;
            for (int set = 1; set <= all; set++) {
                int g = Integer.numberOfTrailingZeros(set);
                int rest = set & (set - 1);
                seen[set] = seen[rest] | yard.kinds[g];
                year[set] = Math.max(year[rest], yard.from[g]);
            }
        }

        private void fillSteps() {
            int all = allGraves();
            for (int set = 0; set <= all; set++) {
                for (int g = 0; g < yard.graves; g++) {
                    steps[set * MOST_GRAVES + g] = canFollow(set, g) ? gapsAt(set, g) : CANNOT;
                }
            }
        }

        private boolean canFollow(int set, int g) {
            return ((set >> g) & 1) == 0
                && (yard.below[g] & ~set) == 0
                && year[set | (1 << g)] <= yard.to[g];
        }

        private int gapsAt(int set, int g) {
            if (((yard.robbedBits >> g) & 1) != 0) {
                return 0;
            }
            int later = allGraves() & ~set & ~(1 << g);
            // Kinds without weight leave no gaps in an order, so they are not told here.
            int weighing = yard.weightOnes | yard.weightTwos;
            return seen[set] & seen[later] & ~yard.kinds[g] & weighing;
        }

        private void fillAhead() {
            int all = allGraves();
            for (int set = 0; set <= all; set++) {
                ahead[set] = set == 0 ? 0 : NO_WAY;
            }
            for (int set = 0; set < all; set++) {
                for (int g = 0; g < yard.graves; g++) {
                    int step = steps[set * MOST_GRAVES + g];
                    if (step != CANNOT) {
                        int next = set | (1 << g);
                        ahead[next] = Math.min(ahead[next], ahead[set] + yard.weigh(step));
                    }
                }
            }
        }

        private void fillBehind() {
            int all = allGraves();
            behind[all] = 0;
            ways[all] = 1;
            for (int set = all - 1; set >= 0; set--) {
                behind[set] = NO_WAY;
                ways[set] = 0;
                for (int g = 0; g < yard.graves; g++) {
                    tryNext(set, g);
                }
            }
        }

        private void tryNext(int set, int g) {
            int step = steps[set * MOST_GRAVES + g];
            if (step == CANNOT) {
                return;
            }
            int next = set | (1 << g);
            int gaps = behind[next] + yard.weigh(step);
            if (ways[next] == 0 || gaps > behind[set]) {
                return;
            }
            ways[set] = gaps < behind[set] ? ways[next] : ways[set] + ways[next];
            behind[set] = gaps;
        }

        private void fillRow() {
            int set = 0;
            for (int place = 0; place < yard.graves && ways[set] > 0; place++) {
                int g = leastNext(set);
                row[place] = g;
                set |= 1 << g;
            }
        }

        private int leastNext(int set) {
            for (int g = 0; g < yard.graves; g++) {
                int step = steps[set * MOST_GRAVES + g];
                int next = set | (1 << g);
                if (step != CANNOT && ways[next] > 0 && behind[next] + yard.weigh(step) == behind[set]) {
                    return g;
                }
            }
            return 0;
        }

        /** A grave is ahead in all best orders, if none of them passes a set with the other one alone. */
        boolean alwaysAhead(int a, int b) {
            int all = allGraves();
            for (int set = 0; set <= all; set++) {
                boolean turned = ((set >> b) & 1) != 0 && ((set >> a) & 1) == 0;
                if (turned && ahead[set] + behind[set] == behind[0]) {
                    return false;
                }
            }
            return true;
        }

        int placesInBest(int g) {
            int all = allGraves();
            int places = 0;
            for (int set = 0; set <= all; set++) {
                int step = steps[set * MOST_GRAVES + g];
                if (step == CANNOT) {
                    continue;
                }
                if (ahead[set] + yard.weigh(step) + behind[set | (1 << g)] == behind[0]) {
                    places |= 1 << Integer.bitCount(set);
                }
            }
            return places;
        }

        /** Each order passes one set of half of the graves: what stands ahead and behind goes with all. */
        void settleSpread() {
            if (!spreadStale) {
                return;
            }
            for (int gaps = 0; gaps <= MOST_GAPS; gaps++) {
                withGapsRow[gaps] = 0;
            }
            int all = allGraves();
            for (int set = 0; set <= all; set++) {
                if (Integer.bitCount(set) == yard.graves / 2) {
                    int firsts = gather(this, 0, set, 0, firstHalf, 0);
                    int seconds = gather(this, set, all, 0, secondHalf, 0);
                    joinHalves(firsts, seconds);
                }
            }
            spreadStale = false;
        }

        /** Gaps of all ways from a set to another one; each call adds a grave, so eight deep at most. */
        private static int gather(Orders o, int set, int goal, int gaps, int[] into, int size) {
            if (set == goal) {
                if (size < into.length) {
                    into[size] = gaps;
                }
                return Math.min(size + 1, into.length);
            }
            int filled = size;
            for (int g = 0; g < o.yard.graves; g++) {
                int step = o.steps[set * MOST_GRAVES + g];
                if (((goal >> g) & 1) != 0 && step != CANNOT) {
                    filled = gather(o, set | (1 << g), goal, gaps + o.yard.weigh(step), into, filled);
                }
            }
            return filled;
        }

        private void joinHalves(int firsts, int seconds) {
            for (int i = 0; i < firsts; i++) {
                for (int j = 0; j < seconds; j++) {
                    int gaps = firstHalf[i] + secondHalf[j];
                    if (gaps <= MOST_GAPS) {
                        withGapsRow[gaps]++;
                    }
                }
            }
        }

        int withGaps(int gaps) {
            return gaps <= MOST_GAPS ? withGapsRow[gaps] : 0;
        }

        int withGapsUpTo(int most) {
            int orders = 0;
            for (int gaps = 0; gaps <= most && gaps <= MOST_GAPS; gaps++) {
                orders += withGapsRow[gaps];
            }
            return orders;
        }

        int gapsOfAll() {
            int all = 0;
            for (int gaps = 0; gaps <= MOST_GAPS; gaps++) {
                all += gaps * withGapsRow[gaps];
            }
            return all;
        }

        int fewestLeftOut() {
            if (leftOutStale) {
                leftOutBits = searchLeftOut();
                leftOutStale = false;
            }
            return leftOutBits;
        }

        private int searchLeftOut() {
            int worthIt = kindsWithGaps();
            int most = Integer.bitCount(worthIt);
            for (int kinds = 0; kinds < most; kinds++) {
                for (int out = 0; out <= ALL_KINDS; out++) {
                    boolean fits = Integer.bitCount(out) == kinds && (out & ~worthIt) == 0;
                    if (fits && reachesAllWithout(out)) {
                        return out;
                    }
                }
            }
            return worthIt;
        }

        /** To leave out a kind that has a gap nowhere never helps. */
        private int kindsWithGaps() {
            int all = allGraves();
            int kinds = 0;
            for (int set = 0; set <= all; set++) {
                for (int g = 0; g < yard.graves; g++) {
                    int step = steps[set * MOST_GRAVES + g];
                    kinds |= step == CANNOT ? 0 : step;
                }
            }
            return kinds;
        }

        private boolean reachesAllWithout(int out) {
            int all = allGraves();
            for (int set = 1; set <= all; set++) {
                reached[set] = false;
            }
            reached[0] = true;
            for (int set = 0; set < all; set++) {
                for (int g = 0; g < yard.graves && reached[set]; g++) {
                    int step = steps[set * MOST_GRAVES + g];
                    if (step != CANNOT && (step & ~out) == 0) {
                        reached[set | (1 << g)] = true;
                    }
                }
            }
            return reached[all];
        }
    }

    /** What is told of the first of the best orders; its row is filled by the search. */
    private static final class FirstRow {
        final Yard yard;
        final int[] row;
        final int[] turned = new int[MOST_GRAVES];
        /** An order as kinds of each of its graves, with room for a new one. */
        final int[] laid = new int[MOST_GRAVES + 1];

        FirstRow(Yard yard, int[] row) {
            this.yard = yard;
            this.row = row;
        }

        private boolean hasAt(int place, int kind) {
            return ((yard.kinds[row[place]] >> kind) & 1) != 0;
        }

        private boolean robbedAt(int place) {
            return ((yard.robbedBits >> row[place]) & 1) != 0;
        }

        private int placeOf(int grave) {
            int found = 0;
            for (int place = 0; place < yard.graves; place++) {
                found = row[place] == grave ? place : found;
            }
            return found;
        }

        /** An order has as many gaps told from its end on, so it is a best one if it can be. */
        boolean turnedCanBe() {
            for (int place = 0; place < yard.graves; place++) {
                turned[place] = row[yard.graves - 1 - place];
            }
            return yard.canBe(turned);
        }

        int gapsOfOrder(int[] order) {
            int robbedPlaces = 0;
            for (int i = 0; i < yard.graves; i++) {
                laid[i] = yard.kinds[order[i]];
                robbedPlaces |= ((yard.robbedBits >> order[i]) & 1) << i;
            }
            return gapsAsLaid(yard.graves, robbedPlaces);
        }

        private int gapsAsLaid(int size, int robbedPlaces) {
            int gaps = 0;
            int ahead = 0;
            for (int i = 0; i < size; i++) {
                int behind = 0;
                for (int j = i + 1; j < size; j++) {
                    behind |= laid[j];
                }
                if (((robbedPlaces >> i) & 1) == 0) {
                    gaps += yard.weigh(ahead & behind & ~laid[i]);
                }
                ahead |= laid[i];
            }
            return gaps;
        }

        private int gapsWith(int kinds, int newPlace) {
            int robbedPlaces = 0;
            for (int i = 0; i < yard.graves; i++) {
                int place = i < newPlace ? i : i + 1;
                laid[place] = yard.kinds[row[i]];
                robbedPlaces |= robbedAt(i) ? 1 << place : 0;
            }
            laid[newPlace] = kinds;
            return gapsAsLaid(yard.graves + 1, robbedPlaces);
        }

        int fewestGapsWith(int kinds) {
            int fewest = gapsWith(kinds, 0);
            for (int place = 1; place <= yard.graves; place++) {
                fewest = Math.min(fewest, gapsWith(kinds, place));
            }
            return fewest;
        }

        int placesWith(int kinds, int gaps) {
            int places = 0;
            for (int place = 0; place <= yard.graves; place++) {
                places |= gapsWith(kinds, place) == gaps ? 1 << place : 0;
            }
            return places;
        }

        /** What is kept lies between two finds: finds outside are thought away, gaps inside filled. */
        int mending(int kind) {
            int finds = 0;
            for (int place = 0; place < yard.graves; place++) {
                finds += hasAt(place, kind) ? 1 : 0;
            }
            int fewest = finds;
            for (int start = 0; start < yard.graves; start++) {
                if (hasAt(start, kind)) {
                    fewest = Math.min(fewest, mendingFrom(start, kind, finds));
                }
            }
            return fewest;
        }

        private int mendingFrom(int start, int kind, int finds) {
            int fewest = finds;
            int kept = 0;
            int filled = 0;
            for (int place = start; place < yard.graves; place++) {
                if (hasAt(place, kind)) {
                    kept++;
                    fewest = Math.min(fewest, finds - kept + filled);
                } else if (!robbedAt(place)) {
                    filled++;
                }
            }
            return fewest;
        }

        /** Cuts as bits, those ahead of earlier places higher: of as many cuts, the least row is the greatest. */
        int bestCuts(int parts) {
            int best = 0;
            int fewest = Orders.NO_WAY;
            int allCuts = (1 << Math.max(0, yard.graves - 1)) - 1;
            for (int cuts = allCuts; cuts >= 0; cuts--) {
                if (Integer.bitCount(cuts) == parts - 1 && straddles(cuts) < fewest) {
                    best = cuts;
                    fewest = straddles(cuts);
                }
            }
            return best;
        }

        private boolean isCutAhead(int place, int cuts) {
            return place > 0 && ((cuts >> (yard.graves - 1 - place)) & 1) != 0;
        }

        int straddles(int cuts) {
            int ofParts = 0;
            int part = 0;
            for (int place = 0; place < yard.graves; place++) {
                if (isCutAhead(place, cuts)) {
                    ofParts += yard.weigh(part);
                    part = 0;
                }
                part |= yard.kinds[row[place]];
            }
            return ofParts + yard.weigh(part) - yard.weigh(yard.kindsOfAll());
        }

        int partOf(int grave, int cuts) {
            int last = placeOf(grave);
            int part = 0;
            for (int place = 1; place <= last; place++) {
                part += isCutAhead(place, cuts) ? 1 : 0;
            }
            return part;
        }

        int yearOfGrave(int grave, int end) {
            int at = placeOf(grave);
            int year = end == 0 ? yard.from[grave] : yard.to[grave];
            for (int place = 0; place < yard.graves; place++) {
                if (end == 0 && place < at) {
                    year = Math.max(year, yard.from[row[place]]);
                } else if (end == 1 && place > at) {
                    year = Math.min(year, yard.to[row[place]]);
                }
            }
            return year;
        }

        int yearOfKind(int kind, int end) {
            int year = end == 0 ? LAST_YEAR : 0;
            for (int place = 0; place < yard.graves; place++) {
                if (hasAt(place, kind)) {
                    int own = yearOfGrave(row[place], end);
                    year = end == 0 ? Math.min(year, own) : Math.max(year, own);
                }
            }
            return year;
        }
    }

    /** A row of a form; its items are held as ints, cut to what the form can hold. */
    private static final class Sheet {
        final int[] items = new int[MOST_ITEMS];
        boolean lost = true;
        int form = 0;
        int size = 0;

        void renew(int newForm, int newSize) {
            for (int i = 0; i < MOST_ITEMS; i++) {
                items[i] = 0;
            }
            lost = false;
            form = newForm;
            size = newSize;
        }

        /** The finding at which a look at an item ends, 0 if there is none. */
        int findingAt(int asForm, int i) {
            if (lost) {
                return FOUND_NULL;
            }
            if (form != asForm) {
                return FOUND_CAST;
            }
            return i < 0 || i >= size ? FOUND_INDEX : 0;
        }

        boolean holdsRun(int start, int n) {
            return start >= 0 && n >= 0 && start <= size - n;
        }

        void store(int i, int v) {
            if (form == 0) {
                items[i] = (byte) v;
            } else {
                items[i] = form == 1 ? (short) v : v;
            }
        }
    }
}
