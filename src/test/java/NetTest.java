/** Promises 1 to 6 and 20: the net, its lines, what is kept of them. */
public final class NetTest {
    private static final int MIN = Integer.MIN_VALUE;
    private static final int MAX = Integer.MAX_VALUE;
    private static final Checks CHECKS = new Checks();

    public static void main(String[] args) {
        newObject();
        nodes();
        line();
        lineRefused();
        lineFull();
        drop();
        keep();
        at();
        count();
        CHECKS.end();
    }

    private static void newObject() {
        FewLines net = new FewLines();
        CHECKS.due("promise 1: count(0)", net.count(0), 4);
        CHECKS.due("promise 1: count(1)", net.count(1), 0);
        CHECKS.due("promise 1: line(3, 2, 1)", net.line(3, 2, 1), 0);
        CHECKS.due("promise 1: another's count(1)", new FewLines().count(1), 0);
    }

    private static void nodes() {
        for (int n = 2; n <= 7; n++) {
            FewLines net = Checks.net(3, 0, 1, 2, 1, 2, 3);
            CHECKS.due("promise 2: nodes(" + n + ")", net.nodes(n), 1);
            CHECKS.state("promise 2: nodes(" + n + ")", net, n + " nodes:");
            CHECKS.due("promise 2: the last node", net.line(0, n - 1, 1), 0);
            CHECKS.due("promise 2: behind the last node", net.line(0, n, 1), FewLines.UNKNOWN);
        }
        FewLines net = Checks.net(3, 0, 1, 2);
        for (int n : new int[] {1, 8, 0, -1, MIN, MAX}) {
            CHECKS.due("promise 2: nodes(" + n + ")", net.nodes(n), FewLines.OUTSIDE);
            CHECKS.state("promise 2: nodes(" + n + ")", net, "3 nodes: 0,1,2,2");
        }
    }

    private static void line() {
        FewLines net = new FewLines();
        CHECKS.due("promise 3: line(2, 1, 9)", net.line(2, 1, 9), 0);
        CHECKS.due("promise 3: line(1, 2, 1)", net.line(1, 2, 1), 1);
        CHECKS.due("promise 3: line(0, 3, 5)", net.line(0, 3, 5), 2);
        CHECKS.state("promise 3: line", net, "4 nodes: 1,2,9,9 1,2,1,1 0,3,5,5");
    }

    private static void lineRefused() {
        FewLines net = Checks.net(4, 0, 1, 2);
        int[][] refused = {
            {4, 0, 1, FewLines.UNKNOWN}, {0, 4, 1, FewLines.UNKNOWN}, {-1, 0, 1, FewLines.UNKNOWN},
            {0, -1, 1, FewLines.UNKNOWN}, {MIN, 0, 1, FewLines.UNKNOWN}, {0, MAX, 1, FewLines.UNKNOWN},
            {4, 4, 1, FewLines.UNKNOWN}, {0, 4, 0, FewLines.UNKNOWN}, {2, 2, 1, FewLines.OUTSIDE},
            {0, 1, 0, FewLines.OUTSIDE}, {0, 1, 10, FewLines.OUTSIDE}, {0, 1, -1, FewLines.OUTSIDE},
            {0, 1, MIN, FewLines.OUTSIDE}, {0, 1, MAX, FewLines.OUTSIDE},
        };
        for (int[] row : refused) {
            String call = "promise 3: line(" + row[0] + ", " + row[1] + ", " + row[2] + ")";
            CHECKS.due(call, net.line(row[0], row[1], row[2]), row[3]);
            CHECKS.state(call, net, "4 nodes: 0,1,2,2");
        }
    }

    private static void lineFull() {
        FewLines net = new FewLines();
        for (int line = 0; line < 12; line++) {
            CHECKS.due("promise 3: line " + line, net.line(line % 3, 3, 1 + line % 9), line);
        }
        String full = Checks.state(net);
        CHECKS.due("promise 3: line when full", net.line(0, 1, 1), FewLines.FULL);
        CHECKS.due("promise 3: unknown before full", net.line(0, 4, 1), FewLines.UNKNOWN);
        CHECKS.due("promise 3: outside before full", net.line(0, 0, 1), FewLines.OUTSIDE);
        CHECKS.due("promise 3: outside before full", net.line(0, 1, 10), FewLines.OUTSIDE);
        CHECKS.state("promise 3: line when full", net, full);
        net.drop(5);
        CHECKS.due("promise 3: line when there is room again", net.line(0, 1, 1), 11);
    }

    private static void drop() {
        FewLines net = Checks.net(4, 0, 1, 1, 1, 2, 2, 2, 3, 3, 0, 3, 4);
        net.keep(2, 33);
        net.keep(3, 44);
        for (int line : new int[] {4, 12, -1, MIN, MAX}) {
            CHECKS.due("promise 4: drop(" + line + ")", net.drop(line), FewLines.UNKNOWN);
        }
        CHECKS.state("promise 4: drop refused", net, "4 nodes: 0,1,1,1 1,2,2,2 2,3,3,33 0,3,4,44");
        CHECKS.due("promise 4: drop(1)", net.drop(1), 1);
        CHECKS.state("promise 4: drop(1)", net, "4 nodes: 0,1,1,1 2,3,3,33 0,3,4,44");
        CHECKS.due("promise 4: drop(2)", net.drop(2), 1);
        CHECKS.due("promise 4: drop(2) again", net.drop(2), FewLines.UNKNOWN);
        CHECKS.due("promise 4: drop(0)", net.drop(0), 1);
        CHECKS.state("promise 4: drop(0)", net, "4 nodes: 2,3,3,33");
        int[] counts = {4, 1, 1, 3, 33};
        for (int what = 0; what < 5; what++) {
            CHECKS.due("promise 4: count(" + what + ") behind drop", net.count(what), counts[what]);
        }
        CHECKS.due("promise 4: cut(7, 1) behind drop", net.cut(7, 1), 33);
        CHECKS.due("promise 4: drop(0)", net.drop(0), 1);
        CHECKS.due("promise 4: drop without lines", net.drop(0), FewLines.UNKNOWN);
        CHECKS.due("promise 4: line behind drop", net.line(1, 0, 6), 0);
        CHECKS.state("promise 4: line behind drop", net, "4 nodes: 0,1,6,6");
    }

    private static void keep() {
        FewLines net = Checks.net(3, 0, 1, 2, 1, 2, 3);
        CHECKS.due("promise 5: keep(1, 60)", net.keep(1, 60), 3);
        CHECKS.due("promise 5: keep(1, 0)", net.keep(1, 0), 60);
        CHECKS.due("promise 5: keep(1, 7)", net.keep(1, 7), 0);
        CHECKS.state("promise 5: keep", net, "3 nodes: 0,1,2,2 1,2,3,7");
        for (int v : new int[] {-1, 61, MIN, MAX}) {
            CHECKS.due("promise 5: keep(1, " + v + ")", net.keep(1, v), FewLines.OUTSIDE);
            CHECKS.due("promise 5: keep(2, " + v + ")", net.keep(2, v), FewLines.UNKNOWN);
        }
        for (int line : new int[] {2, -1, 12, MIN, MAX}) {
            CHECKS.due("promise 5: keep(" + line + ", 1)", net.keep(line, 1), FewLines.UNKNOWN);
        }
        CHECKS.state("promise 5: keep refused", net, "3 nodes: 0,1,2,2 1,2,3,7");
    }

    private static void at() {
        FewLines net = Checks.net(7, 6, 2, 5, 2, 6, 8, 0, 2, 1);
        net.keep(0, 50);
        int[] want = {2, 6, 5, 50, 1};
        for (int what = 0; what < 5; what++) {
            CHECKS.due("promise 6: at(0, " + what + ")", net.at(0, what), want[what]);
        }
        CHECKS.due("promise 6: at(1, 4)", net.at(1, 4), 2);
        CHECKS.due("promise 6: at(2, 4)", net.at(2, 4), 1);
        for (int what : new int[] {-1, 5, MIN, MAX}) {
            CHECKS.due("promise 6: at(0, " + what + ")", net.at(0, what), FewLines.OUTSIDE);
            CHECKS.due("promise 6: at(3, " + what + ")", net.at(3, what), FewLines.UNKNOWN);
        }
        for (int line : new int[] {3, -1, 12, MIN, MAX}) {
            CHECKS.due("promise 6: at(" + line + ", 0)", net.at(line, 0), FewLines.UNKNOWN);
        }
    }

    private static void count() {
        FewLines net = Checks.net(5, 0, 1, 2, 1, 2, 3, 3, 4, 9);
        net.keep(0, 0);
        net.keep(1, 60);
        int[] want = {5, 3, 2, 14, 69};
        for (int what = 0; what < 5; what++) {
            CHECKS.due("promise 20: count(" + what + ")", net.count(what), want[what]);
            CHECKS.due("promise 20: count(" + what + ") of a new one", new FewLines().count(what), what == 0 ? 4 : 0);
        }
        for (int what : new int[] {-1, 5, MIN, MAX}) {
            CHECKS.due("promise 20: count(" + what + ")", net.count(what), FewLines.OUTSIDE);
        }
    }
}
