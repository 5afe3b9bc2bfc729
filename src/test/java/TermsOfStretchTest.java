/** Section 2 of the document's terms, STRETCH and FEWEST: each sentence that names a boundary, by itself. */
public final class TermsOfStretchTest {
    private static final Checks CHECKS = new Checks();

    public static void main(String[] args) {
        greatestOfAll();
        ofNodesThatHaveAWay();
        noneWithoutAWayInTheThinNet();
        noneWithoutTwoNodes();
        leastNumberOfLines();
        leastNumberOfAllLines();
        notAbove();
        notAboveAsAFraction();
        noTwoNodesHaveAWay();
        firstOfSeveral();
        byTheNet();
        CHECKS.end();
    }

    private static void stretchIs(String name, FewLines net, int above, int below) {
        CHECKS.due("stretch(0) " + name, net.stretch(0), above);
        CHECKS.due("stretch(1) " + name, net.stretch(1), below);
    }

    private static void fewestIs(String name, FewLines net, int t, int set) {
        CHECKS.due("fewest(" + t + ", 0) of " + name, net.fewest(t, 0), Integer.bitCount(set));
        CHECKS.due("fewest(" + t + ", 1) of " + name, net.fewest(t, 1), set);
    }

    private static void greatestOfAll() {
        CHECKS.sentence("STRETCH: the greatest of all FARS in THE THIN NET by FARS in THE NET .. as a fraction");
        for (int n = 2; n <= 7; n++) {
            stretchIs("of a row and itself", Checks.row(Checks.same(n - 1, 9)), 1, 1);
        }
        for (int n = 3; n <= 7; n++) {
            for (int line = 0; line < n; line++) {
                FewLines ring = Checks.ring(Checks.same(n, 6));
                ring.keep(line, 0);
                stretchIs("of a ring of " + n + " without line " + line, ring, n - 1, 1);
            }
        }
        // 6/5 of the nodes 0 and 1, 7/6 of 2 and 3, whose difference is small.
        FewLines close = Checks.net(4, 0, 1, 6, 0, 1, 5, 2, 3, 7, 2, 3, 6);
        stretchIs("of fractions close to each other", Checks.kept(close, 1, 0, 1, 0), 6, 5);
        FewLines turned = Checks.net(4, 0, 1, 7, 0, 1, 6, 2, 3, 6, 2, 3, 5);
        stretchIs("of the same the other way round", Checks.kept(turned, 1, 0, 1, 0), 6, 5);
        FewLines lowered = Checks.kept(Checks.net(2, 0, 1, 9, 0, 1, 6), 9, 0);
        stretchIs("in lowest terms", lowered, 3, 2);
        FewLines longest = Checks.kept(Checks.ring(9, 9, 9, 9, 9, 9, 1), 1, 1, 1, 1, 1, 1, 0);
        stretchIs("of the longest way by the shortest", longest, 54, 1);
    }

    private static void ofNodesThatHaveAWay() {
        CHECKS.sentence("STRETCH: .. of all two NODES that have a WAY in THE NET");
        FewLines parts = Checks.kept(Checks.net(7, 1, 2, 2, 1, 2, 4, 5, 6, 3), 0, 4, 3);
        stretchIs("of two parts and nodes alone", parts, 2, 1);
        stretchIs("of the last two nodes", Checks.kept(Checks.net(7, 5, 6, 2, 5, 6, 3), 0, 1), 3, 2);
    }

    private static void noneWithoutAWayInTheThinNet() {
        CHECKS.sentence("STRETCH: .. none, if some two of these have no WAY in THE THIN NET");
        for (int n = 2; n <= 7; n++) {
            for (int line = 0; line < n - 1; line++) {
                FewLines row = Checks.row(Checks.same(n - 1, 1));
                row.keep(line, 0);
                stretchIs("of a row of " + n + " without line " + line, row, FewLines.NONE, FewLines.NONE);
                row.keep(line, 60);
                stretchIs("of a row of " + n + " with it again", row, 1, 1);
            }
        }
        FewLines late = Checks.kept(Checks.net(7, 0, 1, 1, 0, 1, 9, 5, 6, 1), 0, 1, 0);
        stretchIs("of two nodes behind others that are stretched", late, FewLines.NONE, FewLines.NONE);
    }

    private static void noneWithoutTwoNodes() {
        CHECKS.sentence("STRETCH: .. none, if .. or there are none");
        for (int n = 2; n <= 7; n++) {
            stretchIs("of " + n + " nodes without lines", Checks.net(n), FewLines.NONE, FewLines.NONE);
        }
        FewLines dropped = Checks.net(3, 0, 1, 1);
        dropped.drop(0);
        stretchIs("of a net whose line has been dropped", dropped, FewLines.NONE, FewLines.NONE);
    }

    private static void leastNumberOfLines() {
        CHECKS.sentence("FEWEST by t: the least number of LINES that can be KEPT (by their WEIGHTS)");
        for (int n = 2; n <= 7; n++) {
            int all = (1 << n - 1) - 1;
            fewestIs("a row of " + n, Checks.row(Checks.same(n - 1, 9)), 1, all);
            fewestIs("a row of " + n, Checks.row(Checks.same(n - 1, 1)), 9, all);
        }
        // A line of weight 9 is of no use by 1, if the others make a way of 9; it is, if they make one of 10.
        fewestIs("a ring with a way just as short", Checks.ring(9, 4, 5), 1, 6);
        fewestIs("a ring with a way longer by 1", Checks.ring(9, 5, 5), 1, 7);
        FewLines thinned = Checks.row(3, 7);
        CHECKS.due("thin(1)", Checks.kept(thinned, 60, 0).thin(1), 2);
        CHECKS.state("thin(1)", thinned, "3 nodes: 0,1,3,3 1,2,7,7");
    }

    private static void leastNumberOfAllLines() {
        CHECKS.sentence("FEWEST by t: the least number of LINES (12 at most)");
        FewLines two = Checks.net(2);
        for (int line = 0; line < 12; line++) {
            two.line(0, 1, 9 - line * 2 / 3);
        }
        fewestIs("lines of 9, 9, 8, .. 2, 2", two, 1, 1 << 11);
        fewestIs("lines of 9, 9, 8, .. 2, 2", two, 2, 1 << 8);
        fewestIs("lines of 9, 9, 8, .. 2, 2", two, 4, 1 << 2);
        fewestIs("lines of 9, 9, 8, .. 2, 2", two, 5, 1);
        fewestIs("two like lines from each node to the next", Checks.fullNet(9, 0), 1, 0b010101010101);
        // Nodes 0, 1, 2 and 3 .. 6, each of the first to each of the others: no way round is shorter than 3 lines.
        FewLines sides = Checks.net(7);
        for (int line = 0; line < 12; line++) {
            sides.line(line % 3, 3 + line / 3, 1);
        }
        fewestIs("all lines of three nodes and four", sides, 1, 4095);
        fewestIs("all lines of three nodes and four", sides, 2, 4095);
        CHECKS.due("fewest(3, 0) of three nodes and four", sides.fewest(3, 0), 6);
        CHECKS.due("thin(2) of three nodes and four", sides.thin(2), 12);
    }

    private static void notAbove() {
        CHECKS.sentence("FEWEST by t: .. so that STRETCH is not above t");
        for (int n = 3; n <= 7; n++) {
            FewLines ring = Checks.ring(Checks.same(n, 9));
            for (int t = 1; t <= 9; t++) {
                int all = (1 << n) - 1;
                fewestIs("a ring of " + n, ring, t, t < n - 1 ? all : all >> 1);
            }
        }
        // The other way is 9, 18, .. 54 long, by 6 for the only line that is not of it.
        int[] least = {2, 3, 5, 6, 8, 9};
        for (int many = 1; many <= 6; many++) {
            int[] weights = Checks.same(many + 1, 9);
            weights[many] = 6;
            FewLines ring = Checks.ring(weights);
            int all = (1 << many + 1) - 1;
            int t = least[many - 1];
            fewestIs("a ring of 6 and " + many + " times 9", ring, t, all >> 1);
            CHECKS.holds("not by less", ring.fewest(t - 1, 1) != all >> 1);
        }
    }

    private static void notAboveAsAFraction() {
        CHECKS.sentence("FEWEST by t: .. STRETCH (as a fraction) is not above t");
        for (int t = 1; t <= 4; t++) {
            int weight = 2;
            fewestIs("t times 2 by 2", Checks.net(2, 0, 1, t * weight, 0, 1, weight), t, 1);
            fewestIs("t times 2 and 1 by 2", Checks.net(2, 0, 1, t * weight + 1, 0, 1, weight), t, 2);
        }
        fewestIs("9 by 1", Checks.net(2, 0, 1, 9, 0, 1, 1), 9, 1);
        fewestIs("9 by 1", Checks.net(2, 0, 1, 9, 0, 1, 1), 8, 2);
        fewestIs("9 by 8", Checks.net(2, 0, 1, 9, 0, 1, 8), 1, 2);
        fewestIs("9 by 9", Checks.net(2, 0, 1, 9, 0, 1, 9), 1, 1);
    }

    private static void noTwoNodesHaveAWay() {
        CHECKS.sentence("FEWEST by t: .. (or no two NODES have a WAY)");
        for (int n = 2; n <= 7; n++) {
            for (int t : new int[] {1, 9}) {
                fewestIs("no lines", Checks.net(n), t, 0);
                CHECKS.due("thin(" + t + ") of no lines", Checks.net(n).thin(t), 0);
            }
        }
        FewLines parts = Checks.net(7, 0, 1, 1, 0, 1, 1, 5, 6, 1, 5, 6, 1);
        fewestIs("two parts and nodes alone", parts, 1, 5);
    }

    private static void firstOfSeveral() {
        CHECKS.sentence("FEWEST by t: .. of several sets the first (as a number by bits of LINES)");
        for (int many = 2; many <= 12; many++) {
            FewLines two = Checks.net(2);
            for (int line = 0; line < many; line++) {
                two.line(0, 1, 5);
            }
            fewestIs(many + " like lines", two, 1, 1);
        }
        // By 2 all lines of one node are enough: 25, 35, 22 or 44; by 3 any three without a ring.
        FewLines all = Checks.net(4, 0, 1, 1, 1, 2, 1, 2, 3, 1, 3, 0, 1, 0, 2, 1, 1, 3, 1);
        fewestIs("all lines of four nodes", all, 2, 22);
        fewestIs("all lines of four nodes", all, 3, 7);
        // 0 .. 4 are a row, 5 makes it a ring, 6 .. 11 go to the hub 0 from the nodes 1 .. 6.
        FewLines wheel = Checks.net(7, 1, 2, 1, 2, 3, 1, 3, 4, 1, 4, 5, 1, 5, 6, 1, 6, 1, 1,
            0, 1, 1, 0, 2, 1, 0, 3, 1, 0, 4, 1, 0, 5, 1, 0, 6, 1);
        fewestIs("a wheel", wheel, 9, 0b000001011111);
        fewestIs("a wheel", wheel, 6, 0b000001011111);
        fewestIs("a wheel", wheel, 5, 0b000001101111);
        fewestIs("a wheel", wheel, 1, 4095);
    }

    private static void byTheNet() {
        CHECKS.sentence("FEWEST by t: .. LINES that can be KEPT (whatever is KEPT now)");
        FewLines net = Checks.ring(4, 4, 4);
        for (int kept : new int[] {0, 1, 60}) {
            Checks.kept(net, kept, kept, kept);
            fewestIs("a ring kept by " + kept, net, 2, 3);
            CHECKS.due("count(4), which stays", net.count(4), 3 * kept);
        }
        CHECKS.due("thin(2)", net.thin(2), 2);
        CHECKS.state("thin(2)", net, "3 nodes: 0,1,4,4 1,2,4,4 0,2,4,0");
        fewestIs("a ring that is thinned", net, 1, 7);
        CHECKS.due("thin(1)", net.thin(1), 3);
        net.drop(2);
        fewestIs("a ring without a line", net, 2, 3);
        net.line(0, 2, 1);
        fewestIs("a ring with a light line", net, 2, 5);
        net.nodes(3);
        fewestIs("new nodes", net, 2, 0);
    }
}
