import java.util.Arrays;

/** A weighed net of few nodes, and the same net thinned: see README.md. */
public final class FewLines {
    public static final int NONE = -1, UNKNOWN = -2, OUTSIDE = -3, NOT = -4, FULL = -5;

    private static final int LEAST_NODES = 2;
    private static final int MOST_NODES = 7;
    private static final int NODES_AT_FIRST = 4;
    private static final int MOST_LINES = 12;
    private static final int MOST_WEIGHT = 9;
    private static final int MOST_KEPT = 60;
    private static final int MOST_STRETCH = 9;
    private static final int MOST_IN_PROMISE = 20;

    /** The two ways in which most questions can be asked. */
    private static final int OF_NET = 0;
    private static final int OF_THIN_NET = 1;

    /** Beyond each length that can be told, so that a comparison with it needs no case of its own. */
    private static final int ENDLESS = 1000000;

    private static final int NOT_SOUGHT = -1;

    private int nodeCount;
    private int lineCount;
    private final int[] lesserEnd;
    private final int[] greaterEnd;
    private final int[] weightOf;
    private final int[] keptOf;

    // What follows is worked out from the net when a call asks for it; the rows are made once.
    private final int[] forestOf;
    private final Parts parts;
    private final Lengths netLengths;
    private final Lengths thinLengths;
    private final Minors minors;

    /** By stretch: the fewest lines as a set. Kept while the net stays, since the search is the dearest work here. */
    private final int[] fewestSets;

    public FewLines() {
        nodeCount = NODES_AT_FIRST;
        lineCount = 0;
        lesserEnd = new int[MOST_LINES];
        greaterEnd = new int[MOST_LINES];
        weightOf = new int[MOST_LINES];
        keptOf = new int[MOST_LINES];
        forestOf = new int[MOST_LINES];
        parts = new Parts();
        netLengths = new Lengths();
        thinLengths = new Lengths();
        minors = new Minors();
        fewestSets = new int[MOST_STRETCH + 1];
        forgetFewest();
    }

    // ---- the net

    public int nodes(int n) {
        if (!isWithin(n, LEAST_NODES, MOST_NODES)) {
            return OUTSIDE;
        }
        nodeCount = n;
        lineCount = 0;
        forgetFewest();
        return 1;
    }

    public int line(int a, int b, int weight) {
        if (!isNode(a) || !isNode(b)) {
            return UNKNOWN;
        }
        if (a == b || !isWithin(weight, 1, MOST_WEIGHT)) {
            return OUTSIDE;
        }
        if (lineCount >= MOST_LINES) {
            return FULL;
        }
        int added = lineCount;
        lesserEnd[added] = Math.min(a, b);
        greaterEnd[added] = Math.max(a, b);
        weightOf[added] = weight;
        keptOf[added] = weight;
        lineCount = added + 1;
        forgetFewest();
        return added;
    }

    public int drop(int line) {
        if (!isLine(line)) {
            return UNKNOWN;
        }
        for (int to = line; to < lineCount - 1; to++) {
            lesserEnd[to] = lesserEnd[to + 1];
            greaterEnd[to] = greaterEnd[to + 1];
            weightOf[to] = weightOf[to + 1];
            keptOf[to] = keptOf[to + 1];
        }
        lineCount--;
        forgetFewest();
        return 1;
    }

    public int keep(int line, int v) {
        if (!isLine(line)) {
            return UNKNOWN;
        }
        if (!isWithin(v, 0, MOST_KEPT)) {
            return OUTSIDE;
        }
        int before = keptOf[line];
        keptOf[line] = v;
        return before;
    }

    public int at(int line, int what) {
        if (!isLine(line)) {
            return UNKNOWN;
        }
        switch (what) {
            case 0:
                return lesserEnd[line];
            case 1:
                return greaterEnd[line];
            case 2:
                return weightOf[line];
            case 3:
                return keptOf[line];
            case 4:
                peelForests();
                return forestOf[line];
            default:
                return OUTSIDE;
        }
    }

    // ---- cuts

    public int cut(int side, int way) {
        if (!isSide(side) || !isWay(way)) {
            return OUTSIDE;
        }
        return weightAcross(side, way);
    }

    public int worst(int way) {
        if (!isWithin(way, 0, 1)) {
            return OUTSIDE;
        }
        int sign = way == 0 ? -1 : 1;
        int worstSide = NONE;
        int worstThin = 0;
        int worstNet = 0;
        for (int side = 1; side < allNodes(); side += 2) {
            int net = weightAcross(side, OF_NET);
            int thin = weightAcross(side, OF_THIN_NET);
            boolean isWorse = sign * (thin * worstNet - worstThin * net) > 0;
            if (net > 0 && (worstSide == NONE || isWorse)) {
                worstSide = side;
                worstThin = thin;
                worstNet = net;
            }
        }
        return worstSide;
    }

    public int promise(int p, int q) {
        if (!isWithin(q, 1, MOST_IN_PROMISE) || !isWithin(p, 1, q)) {
            return OUTSIDE;
        }
        for (int side = 1; side < allNodes(); side += 2) {
            int net = weightAcross(side, OF_NET);
            int thin = weightAcross(side, OF_THIN_NET);
            if (q * thin < (q - p) * net || q * thin > (q + p) * net) {
                return 0;
            }
        }
        return 1;
    }

    // ---- thinning

    public int forests() {
        return peelForests();
    }

    public int peel(int k) {
        if (!isWithin(k, 0, MOST_LINES)) {
            return OUTSIDE;
        }
        peelForests();
        int set = 0;
        for (int line = 0; line < lineCount; line++) {
            if (forestOf[line] <= k) {
                set |= 1 << line;
            }
        }
        return keepJust(set);
    }

    public int greedy(int t) {
        if (!isWithin(t, 1, MOST_STRETCH)) {
            return OUTSIDE;
        }
        int set = 0;
        thinLengths.clear(nodeCount);
        for (int weight = 1; weight <= MOST_WEIGHT; weight++) {
            for (int line = 0; line < lineCount; line++) {
                if (weightOf[line] == weight && lengthBetweenEnds(line) > t * weight) {
                    thinLengths.add(lesserEnd[line], greaterEnd[line], weight);
                    set |= 1 << line;
                }
            }
        }
        return keepJust(set);
    }

    public int fewest(int t, int what) {
        if (!isWithin(t, 1, MOST_STRETCH) || !isWithin(what, 0, 1)) {
            return OUTSIDE;
        }
        int set = fewestSet(t);
        return what == 0 ? Integer.bitCount(set) : set;
    }

    public int thin(int t) {
        if (!isWithin(t, 1, MOST_STRETCH)) {
            return OUTSIDE;
        }
        return keepJust(fewestSet(t));
    }

    public int far(int a, int b, int way) {
        if (!isNode(a) || !isNode(b)) {
            return UNKNOWN;
        }
        if (!isWay(way)) {
            return OUTSIDE;
        }
        int length = measured(way).between(a, b);
        return length < ENDLESS ? length : NONE;
    }

    public int stretch(int part) {
        if (!isWithin(part, 0, 1)) {
            return OUTSIDE;
        }
        Lengths netNow = measured(OF_NET);
        Lengths thinNow = measured(OF_THIN_NET);
        int above = 0;
        int below = 0;
        for (int a = 0; a < nodeCount; a++) {
            for (int b = a + 1; b < nodeCount; b++) {
                int net = netNow.between(a, b);
                int thin = thinNow.between(a, b);
                if (net < ENDLESS && thin >= ENDLESS) {
                    return NONE;
                }
                if (net < ENDLESS && (below == 0 || thin * below > above * net)) {
                    above = thin;
                    below = net;
                }
            }
        }
        return (int) inLowestTerms(above, below, part);
    }

    // ---- currents

    public long trees(int way) {
        if (!isWay(way)) {
            return OUTSIDE;
        }
        return treeProducts(way);
    }

    public long resistance(int a, int b, int way, int part) {
        if (!isNode(a) || !isNode(b)) {
            return UNKNOWN;
        }
        if (a == b || !isWay(way) || !isWithin(part, 0, 1)) {
            return OUTSIDE;
        }
        return inLowestTerms(partingProducts(a, b, way), treeProducts(way), part);
    }

    public long load(int line, int part) {
        if (!isLine(line)) {
            return UNKNOWN;
        }
        if (!isWithin(part, 0, 1)) {
            return OUTSIDE;
        }
        long parting = partingProducts(lesserEnd[line], greaterEnd[line], OF_NET);
        return inLowestTerms(weightOf[line] * parting, treeProducts(OF_NET), part);
    }

    public int count(int what) {
        switch (what) {
            case 0:
                return nodeCount;
            case 1:
                return lineCount;
            case 2:
                return Integer.bitCount(linesOf(OF_THIN_NET));
            case 3:
                return weightTogether(OF_NET);
            case 4:
                return weightTogether(OF_THIN_NET);
            default:
                return OUTSIDE;
        }
    }

    // ---- what may be asked

    private static boolean isWithin(int number, int least, int most) {
        return number >= least && number <= most;
    }

    private static boolean isIn(int set, int bit) {
        return ((set >> bit) & 1) == 1;
    }

    private static boolean isWay(int way) {
        return way == OF_NET || way == OF_THIN_NET;
    }

    private boolean isNode(int node) {
        return node >= 0 && node < nodeCount;
    }

    private boolean isLine(int line) {
        return line >= 0 && line < lineCount;
    }

    private boolean isSide(int side) {
        return side > 0 && side < allNodes() && (side & 1) == 1;
    }

    private int allNodes() {
        return (1 << nodeCount) - 1;
    }

    // ---- weights and sets of lines

    private int weightIn(int line, int way) {
        return way == OF_NET ? weightOf[line] : keptOf[line];
    }

    private int weightTogether(int way) {
        int sum = 0;
        for (int line = 0; line < lineCount; line++) {
            sum += weightIn(line, way);
        }
        return sum;
    }

    private int weightAcross(int side, int way) {
        int sum = 0;
        for (int line = 0; line < lineCount; line++) {
            if (isIn(side, lesserEnd[line]) != isIn(side, greaterEnd[line])) {
                sum += weightIn(line, way);
            }
        }
        return sum;
    }

    private int linesOf(int way) {
        int set = 0;
        for (int line = 0; line < lineCount; line++) {
            if (weightIn(line, way) > 0) {
                set |= 1 << line;
            }
        }
        return set;
    }

    private int keepJust(int set) {
        for (int line = 0; line < lineCount; line++) {
            keptOf[line] = isIn(set, line) ? weightOf[line] : 0;
        }
        return Integer.bitCount(set);
    }

    // ---- forests

    /** Sets forestOf of all lines; answers the number of forests. */
    private int peelForests() {
        Arrays.fill(forestOf, 0);
        int placed = 0;
        int forest = 0;
        while (placed < lineCount && forest < MOST_LINES) {
            forest++;
            placed += peelOne(forest);
        }
        return forest;
    }

    private int peelOne(int forest) {
        int placed = 0;
        parts.clear();
        for (int line = 0; line < lineCount; line++) {
            if (forestOf[line] == 0 && parts.join(lesserEnd[line], greaterEnd[line])) {
                forestOf[line] = forest;
                placed++;
            }
        }
        return placed;
    }

    // ---- lengths

    private void measure(Lengths lengths, int set) {
        lengths.clear(nodeCount);
        for (int line = 0; line < lineCount; line++) {
            if (isIn(set, line)) {
                lengths.add(lesserEnd[line], greaterEnd[line], weightOf[line]);
            }
        }
    }

    private Lengths measured(int way) {
        Lengths lengths = way == OF_NET ? netLengths : thinLengths;
        measure(lengths, linesOf(way));
        return lengths;
    }

    private int lengthBetweenEnds(int line) {
        return thinLengths.between(lesserEnd[line], greaterEnd[line]);
    }

    // ---- the fewest lines

    private void forgetFewest() {
        Arrays.fill(fewestSets, NOT_SOUGHT);
    }

    private int fewestSet(int t) {
        if (fewestSets[t] == NOT_SOUGHT) {
            int all = linesOf(OF_NET);
            // isWithinStretch compares with these.
            measure(netLengths, all);
            fewestSets[t] = fewestWithin(this, all, lineCount, t, all, leastToJoin());
        }
        return fewestSets[t];
    }

    /** No fewer lines join all that the net joins. */
    private int leastToJoin() {
        Arrays.fill(forestOf, 0);
        return peelOne(1);
    }

    /**
     * The best set so far, or a better one that is the given set without some of its lines below
     * 'open'. The given set is within the stretch. Taking a line away never makes a way shorter, so
     * a set that is beyond the stretch needs no look at what lies in it; and to leave the highest
     * line out before it is tried with it meets the sets in the order of their numbers.
     */
    private static int fewestWithin(FewLines net, int set, int open, int t, int best, int least) {
        int atLeast = Math.max(Integer.bitCount(set >> open), least);
        if (atLeast >= Integer.bitCount(best)) {
            return best;
        }
        if (open <= 0) {
            return set;
        }
        int line = open - 1;
        int without = set & ~(1 << line);
        int better = best;
        if (net.isWithinStretch(without, t)) {
            better = fewestWithin(net, without, line, t, better, least);
        }
        return fewestWithin(net, set, line, t, better, least);
    }

    private boolean isWithinStretch(int set, int t) {
        measure(thinLengths, set);
        for (int a = 0; a < nodeCount; a++) {
            for (int b = a + 1; b < nodeCount; b++) {
                int net = netLengths.between(a, b);
                if (net < ENDLESS && thinLengths.between(a, b) > t * net) {
                    return false;
                }
            }
        }
        return true;
    }

    // ---- products of lines

    private long treeProducts(int way) {
        fillMinors(way);
        return minors.without(1);
    }

    private long partingProducts(int a, int b, int way) {
        fillMinors(way);
        return minors.without((1 << a) | (1 << b));
    }

    private void fillMinors(int way) {
        minors.clear(nodeCount);
        for (int line = 0; line < lineCount; line++) {
            minors.add(lesserEnd[line], greaterEnd[line], weightIn(line, way));
        }
    }

    // ---- fractions

    /** NONE, if nothing is below. */
    private static long inLowestTerms(long above, long below, int part) {
        long divisor = commonDivisor(above, below);
        if (below == 0 || divisor == 0) {
            return NONE;
        }
        return (part == 0 ? above : below) / divisor;
    }

    private static long commonDivisor(long a, long b) {
        long greater = a;
        long lesser = b;
        // Two longs never need a hundred steps.
        for (int step = 0; step < 100 && lesser != 0; step++) {
            long rest = greater % lesser;
            greater = lesser;
            lesser = rest;
        }
        return greater;
    }

    /** Which nodes are joined. */
    private static final class Parts {
        private final int[] partOf;

        Parts() {
            partOf = new int[MOST_NODES];
        }

        void clear() {
            for (int node = 0; node < MOST_NODES; node++) {
                partOf[node] = node;
            }
        }

        /** False, if they are joined already. */
        boolean join(int a, int b) {
            int from = partOf[a];
            int to = partOf[b];
            if (from == to) {
                return false;
            }
            for (int node = 0; node < MOST_NODES; node++) {
                if (partOf[node] == from) {
                    partOf[node] = to;
                }
            }
            return true;
        }
    }

    /** The lengths of the shortest ways between all nodes, over the lines that have been added. */
    private static final class Lengths {
        private final int[] lengths;
        private int size;

        Lengths() {
            lengths = new int[MOST_NODES * MOST_NODES];
            size = 0;
        }

        void clear(int nodes) {
            size = Math.min(nodes, MOST_NODES);
            Arrays.fill(lengths, ENDLESS);
            for (int node = 0; node < size; node++) {
                lengths[node * MOST_NODES + node] = 0;
            }
        }

        int between(int a, int b) {
            return lengths[a * MOST_NODES + b];
        }

        /** A shortest way takes a new line once at most, so one look at each two nodes is enough. */
        void add(int a, int b, int length) {
            if (between(a, b) <= length) {
                return;
            }
            int rowA = a * MOST_NODES;
            int rowB = b * MOST_NODES;
            for (int row = 0; row < size * MOST_NODES; row += MOST_NODES) {
                int overA = lengths[row + a] + length;
                int overB = lengths[row + b] + length;
                for (int to = 0; to < size; to++) {
                    int over = Math.min(overA + lengths[rowB + to], overB + lengths[rowA + to]);
                    lengths[row + to] = Math.min(lengths[row + to], over);
                }
            }
        }
    }

    /**
     * The matrix of a net (at each node all weights there, minus the weights between two of them) and
     * its determinants. Without the rows and columns of some nodes the determinant is the products of
     * all sets of lines without a ring that leave as many parts, one with each of these nodes.
     */
    private static final class Minors {
        private final long[] matrix;
        private final int[] chosen;
        private final long[] minorOf;
        private int size;

        Minors() {
            matrix = new long[MOST_NODES * MOST_NODES];
            chosen = new int[MOST_NODES];
            minorOf = new long[1 << MOST_NODES];
            size = 0;
        }

        void clear(int nodes) {
            size = Math.min(nodes, MOST_NODES);
            Arrays.fill(matrix, 0L);
        }

        void add(int a, int b, int weight) {
            matrix[a * MOST_NODES + a] += weight;
            matrix[b * MOST_NODES + b] += weight;
            matrix[a * MOST_NODES + b] -= weight;
            matrix[b * MOST_NODES + a] -= weight;
        }

        /** By sets of columns, each with as many of the first rows: no division, so it is exact. */
        long without(int nodeSet) {
            int order = choose(nodeSet);
            int allColumns = (1 << order) - 1;
            minorOf[0] = 1;
            for (int columns = 1; columns <= allColumns; columns++) {
                minorOf[columns] = alongLastRow(columns, order);
            }
            return minorOf[allColumns];
        }

        private int choose(int nodeSet) {
            int order = 0;
            for (int node = 0; node < size; node++) {
                if (!isIn(nodeSet, node)) {
                    chosen[order] = node;
                    order++;
                }
            }
            return order;
        }

        private long alongLastRow(int columns, int order) {
            int row = chosen[Integer.bitCount(columns) - 1] * MOST_NODES;
            long sum = 0;
            long sign = 1;
            for (int column = order - 1; column >= 0; column--) {
                if (isIn(columns, column)) {
                    sum += sign * matrix[row + chosen[column]] * minorOf[columns & ~(1 << column)];
                    sign = -sign;
                }
            }
            return sum;
        }
    }
}
