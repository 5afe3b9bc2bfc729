import java.math.BigInteger;
import java.util.ArrayList;
import java.util.Comparator;
import java.util.List;

/**
 * The document's terms word by word, by trying out everything and with no regard to speed, so that
 * it shares no way of working with FewLines. Its calls have the names of the document's.
 */
final class PlainNet {
    private static final int NONE = -1;
    private static final int UNKNOWN = -2;
    private static final int OUTSIDE = -3;
    private static final int FULL = -5;

    private static final class Line {
        final int a;
        final int b;
        final int weight;
        int kept;

        Line(int a, int b, int weight) {
            this.a = a;
            this.b = b;
            this.weight = weight;
            this.kept = weight;
        }

        int other(int end) {
            return end == a ? b : end == b ? a : NONE;
        }

        int in(int way) {
            return way == 0 ? weight : kept;
        }
    }

    private int n = 4;
    private final List<Line> lines = new ArrayList<>();

    private boolean noNode(int a) {
        return a < 0 || a >= n;
    }

    private boolean noLine(int line) {
        return line < 0 || line >= lines.size();
    }

    private static boolean outside(int x, int from, int to) {
        return x < from || x > to;
    }

    int nodes(int many) {
        if (outside(many, 2, 7)) {
            return OUTSIDE;
        }
        n = many;
        lines.clear();
        return 1;
    }

    int line(int a, int b, int weight) {
        if (noNode(a) || noNode(b)) {
            return UNKNOWN;
        }
        if (a == b || outside(weight, 1, 9)) {
            return OUTSIDE;
        }
        if (lines.size() == 12) {
            return FULL;
        }
        lines.add(new Line(a, b, weight));
        return lines.size() - 1;
    }

    int drop(int line) {
        if (noLine(line)) {
            return UNKNOWN;
        }
        lines.remove(line);
        return 1;
    }

    int keep(int line, int v) {
        if (noLine(line)) {
            return UNKNOWN;
        }
        if (outside(v, 0, 60)) {
            return OUTSIDE;
        }
        int before = lines.get(line).kept;
        lines.get(line).kept = v;
        return before;
    }

    int at(int line, int what) {
        if (noLine(line)) {
            return UNKNOWN;
        }
        if (outside(what, 0, 4)) {
            return OUTSIDE;
        }
        Line of = lines.get(line);
        int[] all = {Math.min(of.a, of.b), Math.max(of.a, of.b), of.weight, of.kept, forestOf(of)};
        return all[what];
    }

    private boolean noSide(int side) {
        return side < 1 || side % 2 == 0 || side >= (1 << n) - 1;
    }

    int cut(int side, int way) {
        if (noSide(side) || outside(way, 0, 1)) {
            return OUTSIDE;
        }
        int sum = 0;
        for (Line line : lines) {
            if ((side >> line.a) % 2 + (side >> line.b) % 2 == 1) {
                sum += line.in(way);
            }
        }
        return sum;
    }

    int worst(int way) {
        if (outside(way, 0, 1)) {
            return OUTSIDE;
        }
        int worst = NONE;
        for (int side = (1 << n) - 1; side >= 0; side--) {
            if (noSide(side) || cut(side, 0) == 0) {
                continue;
            }
            // From the last to the first, so that the least of several stays.
            int difference = worst == NONE ? 0 : cut(side, 1) * cut(worst, 0) - cut(worst, 1) * cut(side, 0);
            if (way == 0 ? difference <= 0 : difference >= 0) {
                worst = side;
            }
        }
        return worst;
    }

    int promise(int p, int q) {
        if (outside(p, 1, 20) || outside(q, 1, 20) || p > q) {
            return OUTSIDE;
        }
        int holds = 1;
        for (int side = 0; side < 1 << n; side++) {
            if (!noSide(side) && Math.abs(q * cut(side, 1) - q * cut(side, 0)) > p * cut(side, 0)) {
                holds = 0;
            }
        }
        return holds;
    }

    private List<List<Line>> allForests() {
        List<List<Line>> forests = new ArrayList<>();
        List<Line> left = new ArrayList<>(lines);
        while (!left.isEmpty()) {
            List<Line> forest = new ArrayList<>();
            for (Line line : left) {
                if (shortest(line.a, line.b, forest, 0) == NONE) {
                    forest.add(line);
                }
            }
            left.removeAll(forest);
            forests.add(forest);
        }
        return forests;
    }

    private int forestOf(Line line) {
        int number = 0;
        for (List<Line> forest : allForests()) {
            number++;
            if (forest.contains(line)) {
                return number;
            }
        }
        return 0;
    }

    int forests() {
        return allForests().size();
    }

    private int keepJust(List<Line> some) {
        for (Line line : lines) {
            line.kept = some.contains(line) ? line.weight : 0;
        }
        return some.size();
    }

    int peel(int k) {
        if (outside(k, 0, 12)) {
            return OUTSIDE;
        }
        List<Line> some = new ArrayList<>();
        for (Line line : lines) {
            if (forestOf(line) <= k) {
                some.add(line);
            }
        }
        return keepJust(some);
    }

    int greedy(int t) {
        if (outside(t, 1, 9)) {
            return OUTSIDE;
        }
        List<Line> ordered = new ArrayList<>(lines);
        ordered.sort(Comparator.comparingInt(line -> line.weight));
        List<Line> some = new ArrayList<>();
        for (Line line : ordered) {
            int length = shortest(line.a, line.b, some, 0);
            if (length == NONE || length > t * line.weight) {
                some.add(line);
            }
        }
        return keepJust(some);
    }

    private List<Line> chosen(int set) {
        List<Line> some = new ArrayList<>();
        for (int line = 0; line < lines.size(); line++) {
            if ((set >> line & 1) == 1) {
                some.add(lines.get(line));
            }
        }
        return some;
    }

    private int fewestSet(int t) {
        int best = (1 << lines.size()) - 1;
        for (int set = 0; set < 1 << lines.size(); set++) {
            if (Integer.bitCount(set) < Integer.bitCount(best)) {
                int[] stretch = stretchOf(chosen(set));
                boolean noWays = lines.isEmpty();
                if (noWays || stretch[1] > 0 && stretch[0] <= t * stretch[1]) {
                    best = set;
                }
            }
        }
        return best;
    }

    int fewest(int t, int what) {
        if (outside(t, 1, 9) || outside(what, 0, 1)) {
            return OUTSIDE;
        }
        return what == 0 ? Integer.bitCount(fewestSet(t)) : fewestSet(t);
    }

    int thin(int t) {
        return outside(t, 1, 9) ? OUTSIDE : keepJust(chosen(fewestSet(t)));
    }

    /** By all ways that come to no node twice. */
    private int shortest(int from, int to, List<Line> over, int met) {
        if (from == to) {
            return 0;
        }
        int best = NONE;
        for (Line line : over) {
            int next = line.other(from);
            if (next == NONE || (met >> next & 1) == 1) {
                continue;
            }
            int rest = shortest(next, to, over, met | 1 << from);
            if (rest != NONE && (best == NONE || line.weight + rest < best)) {
                best = line.weight + rest;
            }
        }
        return best;
    }

    private List<Line> linesIn(int way) {
        List<Line> some = new ArrayList<>(lines);
        some.removeIf(line -> line.in(way) == 0);
        return some;
    }

    int far(int a, int b, int way) {
        if (noNode(a) || noNode(b)) {
            return UNKNOWN;
        }
        return outside(way, 0, 1) ? OUTSIDE : shortest(a, b, linesIn(way), 0);
    }

    /** What is above and below; both NONE, if there is none. */
    private int[] stretchOf(List<Line> over) {
        int[] greatest = {NONE, NONE};
        for (int a = 0; a < n; a++) {
            for (int b = 0; b < a; b++) {
                int net = shortest(a, b, lines, 0);
                if (net == NONE) {
                    continue;
                }
                int thin = shortest(a, b, over, 0);
                if (thin == NONE) {
                    return new int[] {NONE, NONE};
                }
                if (greatest[1] == NONE || (double) thin / net > (double) greatest[0] / greatest[1]) {
                    greatest = new int[] {thin, net};
                }
            }
        }
        return greatest;
    }

    int stretch(int part) {
        if (outside(part, 0, 1)) {
            return OUTSIDE;
        }
        int[] stretch = stretchOf(linesIn(1));
        return stretch[1] == NONE ? NONE : (int) lowest(BigInteger.valueOf(stretch[0]), BigInteger.valueOf(stretch[1]), part);
    }

    private static long lowest(BigInteger above, BigInteger below, int part) {
        return (part == 0 ? above : below).divide(above.gcd(below)).longValueExact();
    }

    private int parts(List<Line> over) {
        int parts = 0;
        for (int node = 0; node < n; node++) {
            boolean isFirst = true;
            for (int before = 0; before < node; before++) {
                isFirst &= shortest(node, before, over, 0) == NONE;
            }
            parts += isFirst ? 1 : 0;
        }
        return parts;
    }

    private static BigInteger product(List<Line> some, int way) {
        BigInteger product = BigInteger.ONE;
        for (Line line : some) {
            product = product.multiply(BigInteger.valueOf(line.in(way)));
        }
        return product;
    }

    private BigInteger allTrees(int way) {
        BigInteger sum = BigInteger.ZERO;
        for (int set = 0; set < 1 << lines.size(); set++) {
            if (Integer.bitCount(set) == n - 1 && parts(chosen(set)) == 1) {
                sum = sum.add(product(chosen(set), way));
            }
        }
        return sum;
    }

    /** Sets of n - 2 lines that leave just two parts have no ring. */
    private BigInteger allParting(int a, int b, int way) {
        BigInteger sum = BigInteger.ZERO;
        for (int set = 0; set < 1 << lines.size(); set++) {
            if (Integer.bitCount(set) == n - 2 && shortest(a, b, chosen(set), 0) == NONE && parts(chosen(set)) == 2) {
                sum = sum.add(product(chosen(set), way));
            }
        }
        return sum;
    }

    long trees(int way) {
        return outside(way, 0, 1) ? OUTSIDE : allTrees(way).longValueExact();
    }

    long resistance(int a, int b, int way, int part) {
        if (noNode(a) || noNode(b)) {
            return UNKNOWN;
        }
        if (a == b || outside(way, 0, 1) || outside(part, 0, 1)) {
            return OUTSIDE;
        }
        BigInteger below = allTrees(way);
        return below.signum() == 0 ? NONE : lowest(allParting(a, b, way), below, part);
    }

    long load(int line, int part) {
        if (noLine(line)) {
            return UNKNOWN;
        }
        if (outside(part, 0, 1)) {
            return OUTSIDE;
        }
        Line of = lines.get(line);
        BigInteger below = allTrees(0);
        BigInteger above = allParting(of.a, of.b, 0).multiply(BigInteger.valueOf(of.weight));
        return below.signum() == 0 ? NONE : lowest(above, below, part);
    }

    int count(int what) {
        if (outside(what, 0, 4)) {
            return OUTSIDE;
        }
        int weights = 0;
        int kept = 0;
        for (Line line : lines) {
            weights += line.weight;
            kept += line.kept;
        }
        return new int[] {n, lines.size(), linesIn(1).size(), weights, kept}[what];
    }
}
