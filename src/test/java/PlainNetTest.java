import java.util.Random;

/** Runs of calls of all kinds, the same in each run of the test, against PlainNet. */
public final class PlainNetTest {
    private static final int RUNS = 400;

    /** What is left for the last call's questions and for the whole state: 65 and a few. */
    private static final int LAST_STEP = Checks.MOST_CALLS - 70;
    private static final int MOST_STEPS = 1000;
    private static final int[] WILD = {Integer.MIN_VALUE, Integer.MIN_VALUE + 1, -1000, -4, -1, 13, 61, 128, 4097,
        Integer.MAX_VALUE - 1, Integer.MAX_VALUE};

    private final Random random;
    private final FewLines net = new FewLines();
    private final PlainNet plain = new PlainNet();
    private final Checks checks;
    private final StringBuilder said = new StringBuilder();
    private int calls = 0;

    private PlainNetTest(int seed, Checks checks) {
        this.random = new Random(seed);
        this.checks = checks;
    }

    public static void main(String[] args) {
        Checks checks = new Checks();
        for (int seed = 0; seed < RUNS; seed++) {
            PlainNetTest test = new PlainNetTest(seed, checks);
            test.makeNet();
            for (int step = 0; step < MOST_STEPS && test.calls < LAST_STEP; step++) {
                test.anyCall();
            }
            test.wholeState();
        }
        checks.end();
    }

    private void makeNet() {
        int n = 2 + random.nextInt(6);
        int most = 1 + random.nextInt(9);
        same("nodes", net.nodes(n), plain.nodes(n), n);
        int many = random.nextInt(14);
        for (int i = 0; i < many; i++) {
            int a = random.nextInt(n);
            int b = random.nextInt(n);
            int weight = 1 + random.nextInt(most);
            same("line", net.line(a, b, weight), plain.line(a, b, weight), a, b, weight);
        }
    }

    /** Mostly a number from 'from' to 'to', at times one just beside, at times a wild one. */
    private int number(int from, int to) {
        int kind = random.nextInt(40);
        if (kind == 0) {
            return WILD[random.nextInt(WILD.length)];
        }
        if (kind < 3) {
            return kind == 1 ? from - 1 : to + 1;
        }
        return from + random.nextInt(to - from + 1);
    }

    private int node() {
        return number(0, plain.count(0) - 1);
    }

    private int lineNumber() {
        return number(0, Math.max(0, plain.count(1) - 1));
    }

    private void same(String call, long got, long want, int... arguments) {
        calls++;
        said.append(' ').append(call).append(java.util.Arrays.toString(arguments));
        checks.due(got == want ? call : "after" + said + ": " + call, got, want);
    }

    private void anyCall() {
        switch (random.nextInt(7)) {
            case 0:
                changeNet();
                break;
            case 1:
                changeKept();
                break;
            case 2:
                thinNet();
                break;
            case 3:
                askCuts();
                break;
            case 4:
                askLengths();
                break;
            case 5:
                askCurrents();
                break;
            default:
                askCounts();
                break;
        }
    }

    private void changeNet() {
        int kind = random.nextInt(30);
        if (kind == 0) {
            int n = number(2, 7);
            same("nodes", net.nodes(n), plain.nodes(n), n);
        } else if (kind < 18) {
            int a = node();
            int b = node();
            int weight = number(1, 9);
            same("line", net.line(a, b, weight), plain.line(a, b, weight), a, b, weight);
        } else {
            int line = lineNumber();
            same("drop", net.drop(line), plain.drop(line), line);
        }
    }

    private void changeKept() {
        int line = lineNumber();
        int v = random.nextInt(3) == 0 ? 0 : number(0, 60);
        same("keep", net.keep(line, v), plain.keep(line, v), line, v);
    }

    private void thinNet() {
        int t = number(1, 9);
        int what = number(0, 1);
        int kind = random.nextInt(8);
        if (kind < 2) {
            int k = random.nextBoolean() ? number(0, 12) : random.nextInt(4);
            same("peel", net.peel(k), plain.peel(k), k);
        } else if (kind < 4) {
            same("greedy", net.greedy(t), plain.greedy(t), t);
        } else if (plain.count(1) <= 9 || random.nextInt(8) == 0) {
            if (kind < 7) {
                same("fewest", net.fewest(t, what), plain.fewest(t, what), t, what);
            } else {
                same("thin", net.thin(t), plain.thin(t), t);
            }
        }
    }

    private void askCuts() {
        int kind = random.nextInt(3);
        int way = number(0, 1);
        if (kind == 0) {
            int side = number(0, (1 << plain.count(0)) - 1);
            same("cut", net.cut(side, way), plain.cut(side, way), side, way);
        } else if (kind == 1) {
            same("worst", net.worst(way), plain.worst(way), way);
        } else {
            int p = number(1, 20);
            int q = random.nextBoolean() ? number(1, 20) : 20;
            same("promise", net.promise(p, q), plain.promise(p, q), p, q);
        }
    }

    private void askLengths() {
        int a = node();
        int b = node();
        int way = number(0, 1);
        same("far", net.far(a, b, way), plain.far(a, b, way), a, b, way);
        same("stretch", net.stretch(way), plain.stretch(way), way);
    }

    private void askCurrents() {
        int kind = random.nextInt(6);
        int way = number(0, 1);
        int part = number(0, 1);
        if (kind == 0) {
            same("trees", net.trees(way), plain.trees(way), way);
        } else if (kind < 3) {
            int a = node();
            int b = node();
            same("resistance", net.resistance(a, b, way, part), plain.resistance(a, b, way, part), a, b, way, part);
        } else if (kind < 5) {
            int line = lineNumber();
            same("load", net.load(line, part), plain.load(line, part), line, part);
        }
    }

    private void askCounts() {
        int what = number(0, 4);
        int line = lineNumber();
        same("count", net.count(what), plain.count(what), what);
        same("at", net.at(line, what), plain.at(line, what), line, what);
        same("forests", net.forests(), plain.forests());
    }

    private void wholeState() {
        for (int what = 0; what <= 4; what++) {
            same("count", net.count(what), plain.count(what), what);
            for (int line = 0; line < plain.count(1); line++) {
                same("at", net.at(line, what), plain.at(line, what), line, what);
            }
        }
    }
}
