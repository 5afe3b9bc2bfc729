/** Compares answers with those that are due, and ends a test by its exit code. */
final class Checks {
    private int wrong = 0;

    void due(String call, long got, long want) {
        if (got != want) {
            wrong++;
            System.out.println(call + " answered " + got + ", due is " + want);
        }
    }

    void holds(String what, boolean isSo) {
        if (!isSo) {
            wrong++;
            System.out.println("does not hold: " + what);
        }
    }

    void end() {
        System.out.println(wrong == 0 ? "all answers are as due" : wrong + " answers are not as due");
        if (wrong != 0) {
            System.exit(1);
        }
    }

    /** A net with the given lines, each as three numbers: both ends and the weight. */
    static FewLines net(int nodes, int... lines) {
        FewLines net = new FewLines();
        net.nodes(nodes);
        for (int i = 0; i + 2 < lines.length; i += 3) {
            net.line(lines[i], lines[i + 1], lines[i + 2]);
        }
        return net;
    }

    /** All that the net and its kept lines are, as a text. */
    static String state(FewLines net) {
        StringBuilder text = new StringBuilder();
        text.append(net.count(0)).append(" nodes:");
        for (int line = 0; line < net.count(1); line++) {
            text.append(' ');
            for (int what = 0; what < 4; what++) {
                text.append(what == 0 ? "" : ",").append(net.at(line, what));
            }
        }
        return text.toString();
    }

    void state(String after, FewLines net, String want) {
        String got = state(net);
        if (!got.equals(want)) {
            wrong++;
            System.out.println("after " + after + " the net is " + got + ", due is " + want);
        }
    }
}
