import java.util.Arrays;

/** Compares answers with those that are due, and ends a test by its exit code. */
final class Checks {
    static final int MIN = Integer.MIN_VALUE;
    static final int MAX = Integer.MAX_VALUE;

    /** Behind so many calls what an object answers is free, so no test may ask one for more. */
    static final int MOST_CALLS = 512;

    private int wrong = 0;
    private int asked = 0;
    private int askedBefore = 0;
    private String sentence = "";

    /** What is checked from here on belongs to this sentence of the document. */
    void sentence(String words) {
        endSentence();
        sentence = words + " | ";
    }

    private void endSentence() {
        if (!sentence.isEmpty() && asked == askedBefore) {
            wrong++;
            System.out.println(sentence + "nothing has been checked");
        }
        askedBefore = asked;
    }

    void due(String call, long got, long want) {
        asked++;
        if (got != want) {
            wrong++;
            System.out.println(sentence + call + " answered " + got + ", due is " + want);
        }
    }

    void holds(String what, boolean isSo) {
        asked++;
        if (!isSo) {
            wrong++;
            System.out.println(sentence + "does not hold: " + what);
        }
    }

    void state(String after, FewLines net, String want) {
        asked++;
        String got = state(net);
        if (!got.equals(want)) {
            wrong++;
            System.out.println(sentence + "after " + after + " the net is " + got + ", due is " + want);
        }
    }

    void end() {
        endSentence();
        System.out.println(wrong == 0 ? "all answers are as due" : wrong + " answers are not as due");
        if (wrong != 0) {
            System.exit(1);
        }
    }

    /** A net with the given lines, each as three numbers: both ends and the weight. */
    static FewLines net(int nodes, int... lines) {
        FewLines net = new FewLines();
        net.nodes(nodes);
        for (int i = 0; i + 2 < lines.length; i += 3) {
            net.line(lines[i], lines[i + 1], lines[i + 2]);
        }
        return net;
    }

    /** A line from each node to the next, and from the last one to node 0. */
    static FewLines ring(int... weights) {
        FewLines net = row(Arrays.copyOf(weights, weights.length - 1));
        net.line(weights.length - 1, 0, weights[weights.length - 1]);
        return net;
    }

    /** A line from each node to the next. */
    static FewLines row(int... weights) {
        FewLines net = net(weights.length + 1);
        for (int i = 0; i < weights.length; i++) {
            net.line(i, i + 1, weights[i]);
        }
        return net;
    }

    /** Twelve lines, two from each of seven nodes to the next. */
    static FewLines fullNet(int weight, int kept) {
        FewLines net = net(7);
        for (int line = 0; line < 12; line++) {
            net.line(line / 2, line / 2 + 1, weight);
            net.keep(line, kept);
        }
        return net;
    }

    static FewLines kept(FewLines net, int... kept) {
        for (int line = 0; line < kept.length; line++) {
            net.keep(line, kept[line]);
        }
        return net;
    }

    static int[] same(int many, int number) {
        int[] row = new int[many];
        Arrays.fill(row, number);
        return row;
    }

    /** Numbers that are not from .. to: just beside, far off, and such as look like one of them when cut short. */
    static int[] beside(int from, int to) {
        int[] some = {from - 1, from - 2, to + 1, to + 2, from - 32, to + 32, from - 256, from + 256, to + 65536,
            ~from, ~to, 1 << 30, MIN, MIN + from, MIN + 1 + to, MAX, MAX - 1};
        return Arrays.stream(some).filter(number -> number < from || number > to).toArray();
    }

    /** All that the net and its kept lines are, as a text. */
    static String state(FewLines net) {
        StringBuilder text = new StringBuilder();
        text.append(net.count(0)).append(" nodes:");
        int lines = net.count(1);
        for (int line = 0; line < lines; line++) {
            text.append(' ');
            for (int what = 0; what < 4; what++) {
                text.append(what == 0 ? "" : ",").append(net.at(line, what));
            }
        }
        return text.toString();
    }
}
