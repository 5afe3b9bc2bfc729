/** Section 2 of the document's terms, FORESTS and WAYS: each sentence that names a boundary, by itself. */
public final class TermsOfForestsTest {
    private static final Checks CHECKS = new Checks();

    public static void main(String[] args) {
        linesThatNoEarlierForestHas();
        inOrderOfNumbers();
        endsThatNoOthersJoin();
        tillAllLinesAreInOne();
        forestNumbers();
        peeled();
        lengthOfWays();
        lengthInThinNet();
        far();
        farOfNone();
        greedyBy();
        greedyOrderOfWeights();
        greedyOrderOfNumbers();
        greedyAtMost();
        greedyByThoseKeptSoFar();
        CHECKS.end();
    }

    private static void forestsAre(String name, FewLines net, int... forestOf) {
        int greatest = 0;
        for (int line = 0; line < forestOf.length; line++) {
            CHECKS.due("at(" + line + ", 4) of " + name, net.at(line, 4), forestOf[line]);
            greatest = Math.max(greatest, forestOf[line]);
        }
        CHECKS.due("forests() of " + name, net.forests(), greatest);
    }

    private static void linesThatNoEarlierForestHas() {
        CHECKS.sentence("FORESTS: from the first one on each has, of LINES that no earlier one has");
        forestsAre("lines of two nodes", Checks.net(2, 0, 1, 1, 0, 1, 1, 1, 0, 1), 1, 2, 3);
        forestsAre("three, two, one of a row",
            Checks.net(4, 0, 1, 1, 0, 1, 1, 0, 1, 1, 1, 2, 1, 1, 2, 1, 2, 3, 1), 1, 2, 3, 1, 2, 1);
    }

    private static void inOrderOfNumbers() {
        CHECKS.sentence("FORESTS: .. in order of their numbers");
        forestsAre("the heavier line first", Checks.net(2, 0, 1, 9, 0, 1, 1), 1, 2);
        forestsAre("the lighter line first", Checks.net(2, 0, 1, 1, 0, 1, 9), 1, 2);
        forestsAre("the last of a ring", Checks.ring(3, 2, 1), 1, 1, 2);
        FewLines net = Checks.ring(3, 2, 1);
        net.drop(0);
        net.line(0, 1, 3);
        forestsAre("the same ring, another line the last", net, 1, 1, 2);
    }

    private static void endsThatNoOthersJoin() {
        CHECKS.sentence("FORESTS: .. those whose ends no others of it join yet");
        for (int n = 3; n <= 7; n++) {
            int[] forestOf = Checks.same(n, 1);
            forestOf[n - 1] = 2;
            forestsAre("a ring of " + n, Checks.ring(Checks.same(n, 5)), forestOf);
            forestsAre("a row of " + n, Checks.row(Checks.same(n - 1, 5)), Checks.same(n - 1, 1));
        }
        forestsAre("two parts that a line joins later", Checks.net(4, 0, 1, 1, 2, 3, 1, 1, 2, 1, 0, 3, 1), 1, 1, 1, 2);
        // Lines 2 and 3 join all nodes of forest 2, so that 4 and 5 are left for the next.
        forestsAre("two rings", Checks.net(3, 0, 1, 1, 1, 2, 1, 0, 2, 1, 0, 1, 1, 1, 2, 1, 0, 2, 1), 1, 1, 2, 2, 3, 3);
        FewLines thinned = Checks.kept(Checks.ring(1, 1, 1), 0, 0, 60);
        forestsAre("a ring of which one line is kept", thinned, 1, 1, 2);
    }

    private static void tillAllLinesAreInOne() {
        CHECKS.sentence("FORESTS: .. till all LINES are in one");
        CHECKS.due("forests() without lines", new FewLines().forests(), 0);
        for (int n = 2; n <= 7; n++) {
            FewLines net = Checks.net(n);
            for (int line = 0; line < 12; line++) {
                net.line(0, n - 1, 9);
                CHECKS.due("forests() of " + (line + 1) + " lines of " + n, net.forests(), line + 1);
                CHECKS.due("at(" + line + ", 4) of " + n, net.at(line, 4), line + 1);
            }
        }
        forestsAre("all lines in two", Checks.fullNet(9, 0), 1, 2, 1, 2, 1, 2, 1, 2, 1, 2, 1, 2);
    }

    private static void forestNumbers() {
        CHECKS.sentence("FOREST of a LINE: its number, from 1");
        FewLines net = new FewLines();
        net.line(2, 3, 1);
        CHECKS.due("at(0, 4) of the only line", net.at(0, 4), 1);
        net.line(2, 3, 1);
        CHECKS.due("at(1, 4)", net.at(1, 4), 2);
        net.drop(0);
        CHECKS.due("at(0, 4) of what was the second", net.at(0, 4), 1);
    }

    private static void peeled() {
        CHECKS.sentence("PEELED to k: KEPT is the WEIGHT of LINES of FORESTS 1 .. k, 0 of others");
        for (int k = 0; k <= 12; k++) {
            FewLines net = Checks.net(2);
            for (int line = 0; line < 12; line++) {
                net.line(0, 1, 1 + line % 9);
                net.keep(line, line % 2 == 0 ? 0 : 60);
            }
            CHECKS.due("peel(" + k + ")", net.peel(k), k);
            for (int line = 0; line < 12; line++) {
                CHECKS.due("at(" + line + ", 3), peeled to " + k, net.at(line, 3), line < k ? 1 + line % 9 : 0);
            }
            CHECKS.due("count(2), peeled to " + k, net.count(2), k);
            CHECKS.due("forests(), peeled to " + k, net.forests(), 12);
            CHECKS.due("peel(12) behind it", net.peel(12), 12);
        }
        FewLines ring = Checks.ring(1, 2, 3);
        CHECKS.due("peel(3), more than there are", ring.peel(3), 3);
        CHECKS.due("peel(1)", ring.peel(1), 2);
        CHECKS.state("peel(1)", ring, "3 nodes: 0,1,1,1 1,2,2,2 0,2,3,0");
        CHECKS.due("peel(0)", ring.peel(0), 0);
        CHECKS.state("peel(0)", ring, "3 nodes: 0,1,1,0 1,2,2,0 0,2,3,0");
    }

    private static void lengthOfWays() {
        CHECKS.sentence("WAYS go over LINES; their length is all WEIGHTS together");
        for (int n = 2; n <= 7; n++) {
            FewLines net = Checks.row(Checks.same(n - 1, 9));
            for (int node = 0; node < n; node++) {
                CHECKS.due("far(0, " + node + ", 0)", net.far(0, node, 0), 9 * node);
                CHECKS.due("far(" + node + ", 0, 0)", net.far(node, 0, 0), 9 * node);
            }
        }
    }

    private static void lengthInThinNet() {
        CHECKS.sentence("(in THE THIN NET: WEIGHTS of THE NET, too, over KEPT LINES alone)");
        FewLines net = Checks.kept(Checks.net(3, 0, 1, 2, 1, 2, 3, 0, 2, 6), 60, 1, 60);
        CHECKS.due("far(0, 2, 1), all kept", net.far(0, 2, 1), 5);
        net.keep(0, 0);
        CHECKS.due("far(0, 2, 1)", net.far(0, 2, 1), 6);
        CHECKS.due("far(0, 1, 1)", net.far(0, 1, 1), 9);
        CHECKS.due("far(0, 1, 0)", net.far(0, 1, 0), 2);
        net.keep(0, 1);
        CHECKS.due("far(0, 1, 1), kept again", net.far(0, 1, 1), 2);
    }

    private static void far() {
        CHECKS.sentence("FAR is the length of the shortest one");
        FewLines several = Checks.net(2, 0, 1, 9, 1, 0, 4, 0, 1, 5);
        CHECKS.due("far(0, 1, 0) of several lines", several.far(0, 1, 0), 4);
        CHECKS.due("far(0, 1, 0), six lines or one", Checks.ring(1, 1, 1, 1, 1, 1, 9).far(0, 6, 0), 6);
        CHECKS.due("far(0, 1, 0), one line or six", Checks.ring(2, 2, 2, 2, 2, 2, 9).far(0, 6, 0), 9);
        // The last line makes ways shorter on both sides of it.
        FewLines late = Checks.net(4, 1, 2, 9, 0, 1, 1, 2, 3, 1, 1, 2, 2);
        CHECKS.due("far(0, 3, 0), the short line last", late.far(0, 3, 0), 4);
        late.drop(3);
        CHECKS.due("far(0, 3, 0) without it", late.far(0, 3, 0), 11);
    }

    private static void farOfNone() {
        CHECKS.sentence("FAR ..; none, if there is none");
        for (int n = 2; n <= 7; n++) {
            CHECKS.due("far(0, 1, 0) without lines", Checks.net(n).far(0, 1, 0), FewLines.NONE);
            CHECKS.due("far(1, 0, 1) without lines", Checks.net(n).far(1, 0, 1), FewLines.NONE);
        }
        FewLines parts = Checks.net(7, 0, 1, 1, 1, 2, 1, 3, 4, 1, 4, 5, 1);
        CHECKS.due("far(2, 3, 0) of two parts", parts.far(2, 3, 0), FewLines.NONE);
        CHECKS.due("far(0, 6, 0) of a node alone", parts.far(0, 6, 0), FewLines.NONE);
        CHECKS.due("far(6, 6, 0) of it and itself", parts.far(6, 6, 0), 0);
        parts.peel(0);
        CHECKS.due("far(0, 1, 1), nothing kept", parts.far(0, 1, 1), FewLines.NONE);
        CHECKS.due("far(0, 0, 1), nothing kept", parts.far(0, 0, 1), 0);
        CHECKS.due("far(0, 1, 0), nothing kept", parts.far(0, 1, 0), 1);
    }

    private static void greedyBy() {
        CHECKS.sentence("GREEDY by t (1 .. 9)");
        FewLines net = Checks.kept(Checks.ring(1, 1, 1), 5, 6, 7);
        for (int t : Checks.beside(1, 9)) {
            CHECKS.due("greedy(" + t + ")", net.greedy(t), FewLines.OUTSIDE);
        }
        CHECKS.state("greedy refused", net, "3 nodes: 0,1,1,5 1,2,1,6 0,2,1,7");
        for (int t = 1; t <= 9; t++) {
            CHECKS.due("greedy(" + t + ")", net.greedy(t), t == 1 ? 3 : 2);
        }
        CHECKS.due("greedy(1) without lines", new FewLines().greedy(1), 0);
        CHECKS.due("greedy(9) without lines", new FewLines().greedy(9), 0);
    }

    private static void greedyOrderOfWeights() {
        CHECKS.sentence("GREEDY ..: LINES in the order of their WEIGHTS");
        for (int weight = 2; weight <= 9; weight++) {
            FewLines net = Checks.net(2, 0, 1, weight, 0, 1, weight - 1);
            CHECKS.due("greedy(1)", net.greedy(1), 1);
            CHECKS.due("at(0, 3), the heavier one", net.at(0, 3), 0);
            CHECKS.due("at(1, 3), the lighter one", net.at(1, 3), weight - 1);
        }
        FewLines ring = Checks.ring(9, 5, 1, 3);
        CHECKS.due("greedy(1) of a ring", ring.greedy(1), 3);
        CHECKS.state("greedy(1) of a ring", ring, "4 nodes: 0,1,9,0 1,2,5,5 2,3,1,1 0,3,3,3");
    }

    private static void greedyOrderOfNumbers() {
        CHECKS.sentence("GREEDY ..: in the order of their WEIGHTS, of several of their numbers");
        for (int weight = 1; weight <= 9; weight++) {
            FewLines net = Checks.net(2, 0, 1, weight, 0, 1, weight, 0, 1, weight);
            CHECKS.due("greedy(1)", net.greedy(1), 1);
            CHECKS.due("at(0, 3), the first", net.at(0, 3), weight);
            CHECKS.due("at(1, 3), the second", net.at(1, 3), 0);
            CHECKS.due("at(2, 3), the third", net.at(2, 3), 0);
        }
        FewLines ring = Checks.ring(7, 7, 7, 7);
        CHECKS.due("greedy(3) of a ring", ring.greedy(3), 3);
        CHECKS.state("greedy(3) of a ring", ring, "4 nodes: 0,1,7,7 1,2,7,7 2,3,7,7 0,3,7,0");
    }

    private static void greedyAtMost() {
        CHECKS.sentence("GREEDY ..: KEPT (by its WEIGHT), if .. not joined by a WAY of at most t times its WEIGHT; else 0");
        for (int t = 1; t <= 5; t++) {
            for (int weight = 1; weight <= 9; weight++) {
                // The other way is t lines of this weight long; or these and one more line of 1.
                FewLines just = Checks.ring(Checks.same(t + 1, weight));
                CHECKS.due("greedy(" + t + "), the other way just as long", just.greedy(t), t);
                CHECKS.due("at(" + t + ", 3), the other way just as long", just.at(t, 3), 0);
                int[] longer = Checks.same(t + 2, weight);
                longer[0] = 1;
                FewLines beyond = Checks.ring(longer);
                beyond.keep(t + 1, 60);
                CHECKS.due("greedy(" + t + "), the other way longer by 1", beyond.greedy(t), t + 2);
                CHECKS.due("at(" + (t + 1) + ", 3), the other way longer by 1", beyond.at(t + 1, 3), weight);
            }
        }
        for (int t = 6; t <= 9; t++) {
            CHECKS.due("greedy(" + t + ") of the longest ring", Checks.ring(Checks.same(7, 9)).greedy(t), 6);
        }
    }

    private static void greedyByThoseKeptSoFar() {
        CHECKS.sentence("GREEDY ..: by those KEPT so far");
        FewLines net = Checks.kept(Checks.ring(2, 2, 2), 0, 0, 0);
        CHECKS.due("greedy(1), nothing kept before", net.greedy(1), 3);
        CHECKS.due("greedy(2)", net.greedy(2), 2);
        CHECKS.due("greedy(1), less kept before", net.greedy(1), 3);
        // Line 2 is let go because of 0 and 1; so the way of 2 and 3, which is short enough, is not there for line 4.
        FewLines chain = Checks.net(4, 0, 1, 2, 1, 2, 2, 0, 2, 2, 2, 3, 1, 0, 3, 2);
        CHECKS.due("greedy(2), a way over a line that is let go", chain.greedy(2), 4);
        CHECKS.state("greedy(2)", chain, "4 nodes: 0,1,2,2 1,2,2,2 0,2,2,0 2,3,1,1 0,3,2,2");
    }
}
