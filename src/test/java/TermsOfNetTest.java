/** Section 1 of the document's terms, THE NET: each sentence that names a boundary, by itself. */
public final class TermsOfNetTest {
    private static final Checks CHECKS = new Checks();

    public static void main(String[] args) {
        howManyNodes();
        nodeNumbers();
        fourAtFirst();
        lineNumbers();
        twelveAtMost();
        unlikeNodes();
        severalLines();
        weights();
        keptWeights();
        keptAtFirst();
        thinNet();
        CHECKS.end();
    }

    private static void howManyNodes() {
        CHECKS.sentence("THE NET has NODES 0 .. n - 1 (n 2 .. 7)");
        FewLines net = new FewLines();
        for (int n = 2; n <= 7; n++) {
            CHECKS.due("nodes(" + n + ")", net.nodes(n), 1);
            CHECKS.due("count(0)", net.count(0), n);
        }
        for (int n : Checks.beside(2, 7)) {
            CHECKS.due("nodes(" + n + ")", net.nodes(n), FewLines.OUTSIDE);
            CHECKS.due("count(0)", net.count(0), 7);
        }
    }

    private static void nodeNumbers() {
        CHECKS.sentence("NODES 0 .. n - 1");
        for (int n = 2; n <= 7; n++) {
            FewLines net = Checks.row(Checks.same(n - 1, 1));
            for (int node = 0; node < n; node++) {
                String told = " of node " + node + " of " + n;
                int other = node == 0 ? 1 : 0;
                CHECKS.due("far" + told, net.far(node, other, 0), Math.abs(node - other));
                CHECKS.due("resistance" + told, net.resistance(other, node, 0, 0), Math.abs(node - other));
                CHECKS.due("line" + told, Checks.net(n).line(other, node, 1), 0);
            }
            nodesThatAreNot(n);
        }
    }

    private static void nodesThatAreNot(int n) {
        FewLines net = Checks.row(Checks.same(n - 1, 1));
        for (int node : Checks.beside(0, n - 1)) {
            String told = " of node " + node + " of " + n;
            CHECKS.due("line from" + told, net.line(node, 0, 1), FewLines.UNKNOWN);
            CHECKS.due("line to" + told, net.line(0, node, 1), FewLines.UNKNOWN);
            CHECKS.due("far from" + told, net.far(node, 0, 0), FewLines.UNKNOWN);
            CHECKS.due("far to" + told, net.far(0, node, 1), FewLines.UNKNOWN);
            CHECKS.due("far from and to" + told, net.far(node, node, 0), FewLines.UNKNOWN);
            CHECKS.due("resistance from" + told, net.resistance(node, 0, 0, 0), FewLines.UNKNOWN);
            CHECKS.due("resistance to" + told, net.resistance(0, node, 1, 1), FewLines.UNKNOWN);
        }
        CHECKS.due("count(1)", net.count(1), n - 1);
    }

    private static void fourAtFirst() {
        CHECKS.sentence("(n 2 .. 7; 4 at first)");
        FewLines net = new FewLines();
        CHECKS.due("count(0)", net.count(0), 4);
        CHECKS.due("far(3, 3, 0)", net.far(3, 3, 0), 0);
        CHECKS.due("far(4, 4, 0)", net.far(4, 4, 0), FewLines.UNKNOWN);
        CHECKS.due("cut(13, 0)", net.cut(13, 0), 0);
        CHECKS.due("cut(15, 0)", net.cut(15, 0), FewLines.OUTSIDE);
        CHECKS.due("line(3, 4, 1)", net.line(3, 4, 1), FewLines.UNKNOWN);
        CHECKS.due("line(2, 3, 1)", net.line(2, 3, 1), 0);
    }

    private static void lineNumbers() {
        CHECKS.sentence("LINES, numbered from 0");
        FewLines net = new FewLines();
        CHECKS.due("at(0, 2) without lines", net.at(0, 2), FewLines.UNKNOWN);
        for (int line = 0; line < 12; line++) {
            CHECKS.due("line", net.line(0, 1, 1 + line % 9), line);
            CHECKS.due("at(" + line + ", 2)", net.at(line, 2), 1 + line % 9);
            CHECKS.due("at(" + (line + 1) + ", 2)", net.at(line + 1, 2), FewLines.UNKNOWN);
            CHECKS.due("at(-1, 2)", net.at(-1, 2), FewLines.UNKNOWN);
        }
        for (int line : Checks.beside(0, 11)) {
            CHECKS.due("drop(" + line + ")", net.drop(line), FewLines.UNKNOWN);
            CHECKS.due("keep(" + line + ", 1)", net.keep(line, 1), FewLines.UNKNOWN);
            CHECKS.due("at(" + line + ", 0)", net.at(line, 0), FewLines.UNKNOWN);
            CHECKS.due("load(" + line + ", 0)", net.load(line, 0), FewLines.UNKNOWN);
        }
        CHECKS.due("count(1)", net.count(1), 12);
    }

    private static void twelveAtMost() {
        CHECKS.sentence("LINES, numbered from 0, 12 at most");
        for (int n = 2; n <= 7; n++) {
            FewLines net = Checks.net(n);
            for (int line = 0; line < 12; line++) {
                CHECKS.due("line " + line, net.line(line % (n - 1), n - 1, 1), line);
            }
            CHECKS.due("the thirteenth line", net.line(0, 1, 1), FewLines.FULL);
            CHECKS.due("the thirteenth line again", net.line(0, n - 1, 9), FewLines.FULL);
            CHECKS.due("count(1)", net.count(1), 12);
        }
        FewLines net = Checks.fullNet(1, 1);
        net.drop(11);
        CHECKS.due("a line in the place of a dropped one", net.line(0, 6, 9), 11);
        CHECKS.due("the thirteenth line behind it", net.line(0, 6, 9), FewLines.FULL);
        net.nodes(7);
        CHECKS.due("the first line of new nodes", net.line(0, 6, 9), 0);
    }

    private static void unlikeNodes() {
        CHECKS.sentence("each of two unlike NODES");
        for (int n = 2; n <= 7; n++) {
            FewLines net = Checks.net(n);
            for (int node = 0; node < n; node++) {
                CHECKS.due("line(" + node + ", " + node + ", 1)", net.line(node, node, 1), FewLines.OUTSIDE);
            }
            CHECKS.due("count(1)", net.count(1), 0);
        }
    }

    private static void severalLines() {
        CHECKS.sentence("(of two NODES there may be several)");
        FewLines net = Checks.net(2);
        for (int line = 0; line < 12; line++) {
            CHECKS.due("line", net.line(line % 2, 1 - line % 2, 9), line);
        }
        CHECKS.due("cut(1, 0)", net.cut(1, 0), 108);
        CHECKS.due("trees(0)", net.trees(0), 108);
        CHECKS.due("forests()", net.forests(), 12);
    }

    private static void weights() {
        CHECKS.sentence("with a WEIGHT (1 .. 9)");
        FewLines net = new FewLines();
        for (int weight : Checks.beside(1, 9)) {
            CHECKS.due("line(0, 1, " + weight + ")", net.line(0, 1, weight), FewLines.OUTSIDE);
        }
        CHECKS.due("count(1)", net.count(1), 0);
        for (int weight = 1; weight <= 9; weight++) {
            CHECKS.due("line(0, 1, " + weight + ")", net.line(0, 1, weight), weight - 1);
            CHECKS.due("at(" + (weight - 1) + ", 2)", net.at(weight - 1, 2), weight);
        }
    }

    private static void keptWeights() {
        CHECKS.sentence("KEPT is, for each LINE, a WEIGHT of its own (0 .. 60)");
        FewLines net = Checks.net(3, 0, 1, 5, 1, 2, 5);
        int before = 5;
        for (int v = 0; v <= 60; v++) {
            CHECKS.due("keep(1, " + v + ")", net.keep(1, v), before);
            CHECKS.due("at(1, 3)", net.at(1, 3), v);
            before = v;
        }
        for (int v : Checks.beside(0, 60)) {
            CHECKS.due("keep(1, " + v + ")", net.keep(1, v), FewLines.OUTSIDE);
            CHECKS.due("at(1, 3)", net.at(1, 3), 60);
        }
        CHECKS.state("keep", net, "3 nodes: 0,1,5,5 1,2,5,60");
    }

    private static void keptAtFirst() {
        CHECKS.sentence("(0 .. 60; its WEIGHT at first)");
        FewLines net = new FewLines();
        for (int weight = 1; weight <= 9; weight++) {
            int line = net.line(0, 1, weight);
            CHECKS.due("at(" + line + ", 3)", net.at(line, 3), weight);
            net.keep(line, 60);
        }
        net.drop(8);
        net.line(2, 3, 4);
        CHECKS.due("at(8, 3) in the place of a dropped line", net.at(8, 3), 4);
        net.nodes(4);
        net.line(0, 1, 3);
        CHECKS.due("at(0, 3) of new nodes", net.at(0, 3), 3);
    }

    private static void thinNet() {
        CHECKS.sentence("THE THIN NET has the LINES that are KEPT above 0, with these");
        for (int v : new int[] {0, 1, 60}) {
            FewLines net = Checks.kept(Checks.row(9, 9), 9, v);
            CHECKS.due("count(2), kept " + v, net.count(2), v > 0 ? 2 : 1);
            CHECKS.due("count(4), kept " + v, net.count(4), 9 + v);
            CHECKS.due("cut(3, 1), kept " + v, net.cut(3, 1), v);
            CHECKS.due("cut(3, 0), kept " + v, net.cut(3, 0), 9);
            CHECKS.due("far(1, 2, 1), kept " + v, net.far(1, 2, 1), v > 0 ? 9 : FewLines.NONE);
            CHECKS.due("far(1, 2, 0), kept " + v, net.far(1, 2, 0), 9);
            CHECKS.due("trees(1), kept " + v, net.trees(1), 9 * v);
            CHECKS.due("trees(0), kept " + v, net.trees(0), 81);
            CHECKS.due("stretch(0), kept " + v, net.stretch(0), v > 0 ? 1 : FewLines.NONE);
        }
    }
}
