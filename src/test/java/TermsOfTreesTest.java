/** Section 3 of the document's terms, TREES: each sentence that names a boundary, by itself. */
public final class TermsOfTreesTest {
    private static final Checks CHECKS = new Checks();
    private static final int[] PRIMES = {59, 53, 47, 43, 41, 37};

    public static void main(String[] args) {
        treesOfJustEnoughLines();
        treesOfTooFewLines();
        treesOfTwoNodes();
        treesTogether();
        greatestTrees();
        resistanceOfTwoNodes();
        resistanceOfTwoParts();
        resistanceAsAFraction();
        greatestResistance();
        noResistanceWithoutTrees();
        load();
        loadInTheNet();
        CHECKS.end();
    }

    private static void treesOfJustEnoughLines() {
        CHECKS.sentence("TREES of a net: the products of WEIGHTS of all sets of n - 1 of its LINES that join all NODES");
        long product = 1;
        long kept = 1;
        for (int n = 2; n <= 7; n++) {
            FewLines row = Checks.row(Checks.same(n - 1, 9));
            Checks.kept(row, Checks.same(n - 1, 60));
            product *= 9;
            kept *= 60;
            CHECKS.due("trees(0) of a row of " + n, row.trees(0), product);
            CHECKS.due("trees(1) of a row of " + n, row.trees(1), kept);
            row.keep(n - 2, 0);
            CHECKS.due("trees(1) of a row of " + n + " without the last line", row.trees(1), 0);
            CHECKS.due("trees(0) of it", row.trees(0), product);
        }
    }

    private static void treesOfTooFewLines() {
        CHECKS.sentence("TREES of a net: .. that join all NODES");
        for (int n = 2; n <= 7; n++) {
            CHECKS.due("trees(0) of " + n + " without lines", Checks.net(n).trees(0), 0);
            CHECKS.due("trees(1) of " + n + " without lines", Checks.net(n).trees(1), 0);
            FewLines row = Checks.row(Checks.same(n - 1, 9));
            row.drop(0);
            CHECKS.due("trees(0) of " + n + ", node 0 alone", row.trees(0), 0);
            row = Checks.row(Checks.same(n - 1, 9));
            row.drop(n - 2);
            CHECKS.due("trees(0) of " + n + ", the last node alone", row.trees(0), 0);
        }
        // n - 1 lines and more, but with a ring and a node without any.
        CHECKS.due("trees(0) of a ring and a node", Checks.net(4, 0, 1, 1, 1, 2, 1, 2, 0, 1).trees(0), 0);
        CHECKS.due("trees(0) of node 0 and a ring", Checks.net(4, 3, 1, 1, 1, 2, 1, 2, 3, 1).trees(0), 0);
        CHECKS.due("trees(0) of two rings",
            Checks.net(6, 0, 1, 9, 1, 2, 9, 2, 0, 9, 3, 4, 9, 4, 5, 9, 5, 3, 9).trees(0), 0);
    }

    private static void treesOfTwoNodes() {
        CHECKS.sentence("TREES of a net: .. sets of n - 1 of its LINES (one LINE of two NODES)");
        FewLines net = Checks.net(2);
        for (int line = 0; line < 12; line++) {
            net.line(0, 1, 9);
            net.keep(line, 5 * line);
        }
        CHECKS.due("trees(0)", net.trees(0), 108);
        CHECKS.due("trees(1)", net.trees(1), 330);
    }

    private static void treesTogether() {
        CHECKS.sentence("TREES of a net: the products .. of all sets .. together");
        for (int n = 3; n <= 7; n++) {
            CHECKS.due("trees(0) of a ring of " + n, Checks.ring(Checks.same(n, 1)).trees(0), n);
        }
        CHECKS.due("trees(0) of 2, 3, 5", Checks.ring(2, 3, 5).trees(0), 31);
        FewLines all = Checks.net(4, 0, 1, 1, 1, 2, 1, 2, 3, 1, 3, 0, 1, 0, 2, 1, 1, 3, 1);
        CHECKS.due("trees(0) of all lines of four nodes", all.trees(0), 16);
        all.keep(0, 2);
        CHECKS.due("trees(1) with a line of 2, which is in half of them", all.trees(1), 24);
        all.keep(0, 0);
        CHECKS.due("trees(1) without it", all.trees(1), 8);
    }

    private static void greatestTrees() {
        CHECKS.sentence("TREES of a net: the products of WEIGHTS (KEPT 0 .. 60) .. together (beyond an int)");
        FewLines net = Checks.fullNet(9, 60);
        CHECKS.due("trees(0)", net.trees(0), 34012224L);
        CHECKS.due("trees(1)", net.trees(1), 2985984000000L);
        FewLines sides = Checks.net(7);
        for (int line = 0; line < 12; line++) {
            sides.line(line % 3, 3 + line / 3, 9);
            sides.keep(line, 60);
        }
        // All lines of three nodes and four have 3 ^ 3 times 4 ^ 2 trees.
        CHECKS.due("trees(0) of three nodes and four", sides.trees(0), 432 * 531441L);
        CHECKS.due("trees(1) of three nodes and four", sides.trees(1), 432 * 46656000000L);
    }

    private static void resistanceIs(String name, FewLines net, int a, int b, int way, long above, long below) {
        String call = "resistance(" + a + ", " + b + ", " + way + ", ";
        CHECKS.due(call + "0) " + name, net.resistance(a, b, way, 0), above);
        CHECKS.due(call + "1) " + name, net.resistance(a, b, way, 1), below);
        CHECKS.due(call + "0) " + name + ", turned", net.resistance(b, a, way, 0), above);
        CHECKS.due(call + "1) " + name + ", turned", net.resistance(b, a, way, 1), below);
    }

    private static void resistanceOfTwoNodes() {
        CHECKS.sentence("RESISTANCE of two NODES: the products of all sets of n - 2 LINES (the empty set's, if n is 2)");
        for (int weight = 1; weight <= 9; weight++) {
            resistanceIs("of one line", Checks.net(2, 0, 1, weight), 0, 1, 0, 1, weight);
        }
        FewLines net = Checks.net(2);
        for (int line = 0; line < 12; line++) {
            net.line(0, 1, 9);
            net.keep(line, 60);
        }
        resistanceIs("of twelve lines", net, 0, 1, 0, 1, 108);
        resistanceIs("of twelve lines", net, 0, 1, 1, 1, 720);
    }

    private static void resistanceOfTwoParts() {
        CHECKS.sentence("RESISTANCE ..: sets of n - 2 LINES without a ring that leave just two parts, one with either NODE");
        for (int n = 3; n <= 7; n++) {
            FewLines row = Checks.row(Checks.same(n - 1, 1));
            FewLines ring = Checks.ring(Checks.same(n, 1));
            for (int node = 1; node < n; node++) {
                resistanceIs("of a row of " + n, row, 0, node, 0, node, 1);
                // By both ways around: 1 / (1 / node + 1 / (n - node)).
                int common = greatestCommon(node * (n - node), n);
                resistanceIs("of a ring of " + n, ring, 0, node, 0, node * (n - node) / common, n / common);
            }
        }
        // Three lines of three nodes are n - 2 lines of five, but a ring.
        FewLines hung = Checks.net(5, 0, 1, 1, 1, 2, 1, 0, 2, 1, 2, 3, 1, 3, 4, 1);
        resistanceIs("across a ring", hung, 0, 1, 0, 2, 3);
        resistanceIs("from a ring on", hung, 0, 4, 0, 8, 3);
    }

    private static int greatestCommon(int a, int b) {
        return b == 0 ? a : greatestCommon(b, a % b);
    }

    private static void resistanceAsAFraction() {
        CHECKS.sentence("RESISTANCE ..: together, by TREES; as a fraction");
        FewLines row = Checks.row(2, 3, 6);
        resistanceIs("of 2, 3, 6", row, 0, 3, 0, 1, 1);
        resistanceIs("of 2, 3", row, 0, 2, 0, 5, 6);
        resistanceIs("of 3, 6", row, 1, 3, 0, 1, 2);
        Checks.kept(row, 60, 1, 60);
        resistanceIs("of 60, 1, 60", row, 0, 3, 1, 31, 30);
        resistanceIs("of the net's, which stay", row, 0, 3, 0, 1, 1);
    }

    private static void greatestResistance() {
        CHECKS.sentence("RESISTANCE ..: as a fraction (exact, beyond an int)");
        FewLines row = Checks.kept(Checks.row(1, 1, 1, 1, 1, 1), PRIMES);
        long below = 1;
        for (int prime : PRIMES) {
            below *= prime;
        }
        long above = 0;
        for (int prime : PRIMES) {
            above += below / prime;
        }
        resistanceIs("of a row of primes", row, 0, 6, 1, above, below);
        // Six times two lines of 60 beside each other, which are 1/120.
        resistanceIs("of twelve lines", Checks.fullNet(9, 60), 0, 6, 1, 1, 20);
        resistanceIs("of twelve lines", Checks.fullNet(9, 60), 0, 6, 0, 1, 3);
    }

    private static void noResistanceWithoutTrees() {
        CHECKS.sentence("RESISTANCE ..; none without TREES");
        for (int n = 2; n <= 7; n++) {
            resistanceIs("of " + n + " without lines", Checks.net(n), 0, n - 1, 0, FewLines.NONE, FewLines.NONE);
            resistanceIs("of " + n + " without lines", Checks.net(n), 0, n - 1, 1, FewLines.NONE, FewLines.NONE);
        }
        FewLines net = Checks.kept(Checks.row(1, 2, 3), 1, 2, 0);
        resistanceIs("of two that are joined, a third is not", net, 0, 1, 1, FewLines.NONE, FewLines.NONE);
        resistanceIs("of two that are not joined", net, 0, 3, 1, FewLines.NONE, FewLines.NONE);
        resistanceIs("of two in the net, which has trees", net, 0, 1, 0, 1, 1);
        net.keep(2, 1);
        resistanceIs("of two when all are joined", net, 0, 1, 1, 1, 1);
        net.drop(0);
        resistanceIs("of a net without node 0", net, 1, 2, 0, FewLines.NONE, FewLines.NONE);
    }

    private static void loadIs(String name, FewLines net, int line, long above, long below) {
        CHECKS.due("load(" + line + ", 0) " + name, net.load(line, 0), above);
        CHECKS.due("load(" + line + ", 1) " + name, net.load(line, 1), below);
    }

    private static void load() {
        CHECKS.sentence("LOAD of a LINE in THE NET: its WEIGHT times RESISTANCE of its ends");
        for (int weight = 1; weight <= 9; weight++) {
            loadIs("of the only line of " + weight, Checks.net(2, 0, 1, weight), 0, 1, 1);
        }
        for (int n = 3; n <= 7; n++) {
            FewLines ring = Checks.ring(Checks.same(n, 9));
            for (int line = 0; line < n; line++) {
                loadIs("of a ring of " + n, ring, line, n - 1, n);
            }
            loadIs("of a row of " + n, Checks.row(Checks.same(n - 1, 9)), n - 2, 1, 1);
        }
        for (int line = 0; line < 12; line++) {
            loadIs("of twelve lines", Checks.fullNet(9, 60), line, 1, 2);
        }
        FewLines two = Checks.net(2, 0, 1, 9, 0, 1, 6, 1, 0, 3);
        loadIs("of 9 of 18", two, 0, 1, 2);
        loadIs("of 6 of 18", two, 1, 1, 3);
        loadIs("of 3 of 18", two, 2, 1, 6);
    }

    private static void loadInTheNet() {
        CHECKS.sentence("LOAD of a LINE in THE NET: .. RESISTANCE of its ends there");
        FewLines net = Checks.kept(Checks.net(2, 0, 1, 1, 0, 1, 2), 0, 60);
        loadIs("of a line that is not kept", net, 0, 1, 3);
        loadIs("of a line that is kept by 60", net, 1, 2, 3);
        net.keep(1, 0);
        loadIs("when the thin net has no trees", net, 0, 1, 3);
        FewLines parts = Checks.net(3, 0, 1, 4);
        loadIs("when the net has no trees", parts, 0, FewLines.NONE, FewLines.NONE);
        parts.line(1, 2, 5);
        parts.keep(1, 0);
        loadIs("when the net has trees, the thin net has none", parts, 0, 1, 1);
    }
}
