/** Promises 10 to 16: forests, greedy stretch, the fewest lines, lengths of ways. */
public final class ThinningTest {
    private static final int MIN = Integer.MIN_VALUE;
    private static final int MAX = Integer.MAX_VALUE;
    private static final Checks CHECKS = new Checks();

    public static void main(String[] args) {
        forests();
        forestsOfAllLines();
        peel();
        greedy();
        greedyInOrderOfWeights();
        fewest();
        fewestOfSeveral();
        fewestOfParts();
        fewestFollowsTheNet();
        thin();
        far();
        stretch();
        stretchNone();
        refused();
        CHECKS.end();
    }

    private static void forestsAre(String name, FewLines net, int many, int... forestOf) {
        CHECKS.due("promise 10: forests() of " + name, net.forests(), many);
        for (int line = 0; line < forestOf.length; line++) {
            CHECKS.due("promise 10: at(" + line + ", 4) of " + name, net.at(line, 4), forestOf[line]);
        }
    }

    private static void forests() {
        forestsAre("no lines", new FewLines(), 0);
        forestsAre("one line", Checks.net(4, 1, 2, 3), 1, 1);
        forestsAre("a ring", Checks.ring(1, 2, 3), 2, 1, 1, 2);
        // The last line joins what the first forest does not join yet.
        forestsAre("two parts", Checks.net(5, 0, 1, 1, 0, 1, 1, 1, 2, 1, 0, 2, 1, 3, 4, 1), 2, 1, 2, 1, 2, 1);
        // Both ends of line 3 are joined in forest 1 by lines that come before it, in 2 by none.
        forestsAre("lines twice", Checks.net(3, 0, 1, 1, 0, 1, 1, 0, 1, 1, 1, 2, 1, 1, 2, 1, 0, 2, 1), 3, 1, 2, 3, 1, 2, 3);
    }

    private static void forestsOfAllLines() {
        FewLines net = Checks.net(2);
        for (int line = 0; line < 12; line++) {
            net.line(0, 1, 1);
            forestsAre("lines of two nodes", net, line + 1);
            CHECKS.due("promise 10: the last line's", net.at(line, 4), line + 1);
        }
        net.keep(0, 0);
        forestsAre("lines that are not kept too", net, 12, 1, 2, 3);
        net.drop(0);
        forestsAre("lines behind a dropped one", net, 11, 1, 2, 3);
        CHECKS.due("promise 12: greedy(1) behind a dropped line", net.greedy(1), 1);
        CHECKS.due("promise 11: peel(11)", net.peel(11), 11);
        CHECKS.due("promise 11: peel(10)", net.peel(10), 10);
    }

    private static void peel() {
        FewLines net = Checks.net(3, 0, 1, 2, 0, 1, 3, 1, 2, 4, 0, 2, 5, 0, 1, 6);
        net.keep(0, 60);
        CHECKS.due("promise 11: peel(2)", net.peel(2), 4);
        CHECKS.state("promise 11: peel(2)", net, "3 nodes: 0,1,2,2 0,1,3,3 1,2,4,4 0,2,5,5 0,1,6,0");
        CHECKS.due("promise 11: peel(1)", net.peel(1), 2);
        CHECKS.state("promise 11: peel(1)", net, "3 nodes: 0,1,2,2 0,1,3,0 1,2,4,4 0,2,5,0 0,1,6,0");
        CHECKS.due("promise 11: peel(12)", net.peel(12), 5);
        CHECKS.state("promise 11: peel(12)", net, "3 nodes: 0,1,2,2 0,1,3,3 1,2,4,4 0,2,5,5 0,1,6,6");
        CHECKS.due("promise 11: peel(0)", net.peel(0), 0);
        CHECKS.state("promise 11: peel(0)", net, "3 nodes: 0,1,2,0 0,1,3,0 1,2,4,0 0,2,5,0 0,1,6,0");
        CHECKS.due("promise 11: peel(1) without lines", new FewLines().peel(1), 0);
    }

    private static void greedy() {
        // The other way is 8 long, which is just 4 times 2.
        FewLines net = Checks.net(5, 0, 1, 2, 1, 2, 2, 2, 3, 2, 3, 4, 2, 4, 0, 2);
        net.keep(1, 50);
        CHECKS.due("promise 12: greedy(3)", net.greedy(3), 5);
        CHECKS.state("promise 12: greedy(3)", net, "5 nodes: 0,1,2,2 1,2,2,2 2,3,2,2 3,4,2,2 0,4,2,2");
        CHECKS.due("promise 12: greedy(4)", net.greedy(4), 4);
        CHECKS.state("promise 12: greedy(4)", net, "5 nodes: 0,1,2,2 1,2,2,2 2,3,2,2 3,4,2,2 0,4,2,0");
        CHECKS.due("promise 12: greedy(9)", net.greedy(9), 4);
        CHECKS.due("promise 12: greedy(1)", net.greedy(1), 5);
        CHECKS.due("promise 12: greedy(1) of the heaviest lines", Checks.ring(9, 9, 9).greedy(1), 3);
        CHECKS.due("promise 12: greedy(1) without lines", new FewLines().greedy(1), 0);
    }

    private static void greedyInOrderOfWeights() {
        FewLines net = Checks.net(3, 0, 1, 9, 1, 2, 3, 0, 2, 6, 0, 1, 9);
        CHECKS.due("promise 12: greedy(1), the heaviest first", net.greedy(1), 2);
        CHECKS.state("promise 12: greedy(1)", net, "3 nodes: 0,1,9,0 1,2,3,3 0,2,6,6 0,1,9,0");
        FewLines like = Checks.net(3, 0, 1, 1, 0, 1, 1, 1, 2, 1);
        CHECKS.due("promise 12: greedy(1) of like lines", like.greedy(1), 2);
        CHECKS.state("promise 12: greedy(1) of like lines", like, "3 nodes: 0,1,1,1 0,1,1,0 1,2,1,1");
    }

    private static void fewestIs(String name, FewLines net, int t, int set) {
        CHECKS.due("promise 13: fewest(" + t + ", 0) of " + name, net.fewest(t, 0), Integer.bitCount(set));
        CHECKS.due("promise 13: fewest(" + t + ", 1) of " + name, net.fewest(t, 1), set);
    }

    private static void fewest() {
        FewLines five = Checks.ring(1, 1, 1, 1, 1);
        fewestIs("a ring", five, 3, 31);
        fewestIs("a ring", five, 4, 15);
        fewestIs("a ring", five, 9, 15);
        // Without the 9 its ends are 1 + 2 + 3 apart; so it is of no use even by 1.
        fewestIs("a ring with a heavy line", Checks.ring(9, 1, 2, 3), 1, 14);
        // Without line 3 the other way is 15, which is 5 times 3.
        fewestIs("a ring with a light line", Checks.ring(5, 5, 5, 3), 4, 11);
        fewestIs("a ring with a light line", Checks.ring(5, 5, 5, 3), 5, 7);
        fewestIs("no lines", new FewLines(), 1, 0);
        fewestIs("one line", Checks.net(7, 3, 6, 9), 1, 1);
        String before = Checks.state(five);
        five.fewest(4, 0);
        CHECKS.state("promise 13: fewest(4, 0)", five, before);
    }

    private static void fewestOfSeveral() {
        // The heavier line has the lower number: it is taken as soon as the stretch allows it.
        FewLines twice = Checks.net(2, 0, 1, 6, 0, 1, 4);
        fewestIs("two lines", twice, 1, 2);
        fewestIs("two lines", twice, 2, 1);
        FewLines all = Checks.net(4, 0, 1, 1, 1, 2, 1, 2, 3, 1, 3, 0, 1, 0, 2, 1, 1, 3, 1);
        fewestIs("all lines of four nodes", all, 1, 63);
        fewestIs("all lines of four nodes", all, 2, 22);
        fewestIs("all lines of four nodes", all, 3, 7);
    }

    private static void fewestOfParts() {
        FewLines net = Checks.net(7, 0, 1, 1, 1, 2, 1, 0, 2, 1, 4, 5, 2, 5, 6, 2, 4, 6, 4);
        fewestIs("two parts", net, 1, 31);
        fewestIs("two parts", net, 2, 27);
    }

    private static void fewestFollowsTheNet() {
        FewLines net = Checks.ring(1, 1, 1);
        fewestIs("a ring of three", net, 2, 3);
        net.keep(0, 0);
        net.keep(1, 0);
        fewestIs("a ring of which one line is kept", net, 2, 3);
        net.drop(0);
        fewestIs("a ring without a line", net, 2, 3);
        net.drop(0);
        fewestIs("a ring without two lines", net, 2, 1);
        net.line(1, 0, 5);
        fewestIs("a ring with a new line", net, 2, 3);
        net.nodes(3);
        fewestIs("a net made anew", net, 2, 0);
    }

    private static void thin() {
        FewLines net = Checks.ring(5, 5, 5, 3);
        net.keep(0, 60);
        net.keep(1, 0);
        CHECKS.due("promise 14: thin(4)", net.thin(4), 3);
        CHECKS.state("promise 14: thin(4)", net, "4 nodes: 0,1,5,5 1,2,5,5 2,3,5,0 0,3,3,3");
        CHECKS.due("promise 14: thin(5)", net.thin(5), 3);
        CHECKS.state("promise 14: thin(5)", net, "4 nodes: 0,1,5,5 1,2,5,5 2,3,5,5 0,3,3,0");
        CHECKS.due("promise 14: thin(1)", net.thin(1), 4);
        CHECKS.state("promise 14: thin(1)", net, "4 nodes: 0,1,5,5 1,2,5,5 2,3,5,5 0,3,3,3");
        CHECKS.due("promise 14: thin(9) without lines", new FewLines().thin(9), 0);
    }

    private static void far() {
        FewLines net = Checks.net(5, 0, 1, 2, 1, 2, 3, 0, 2, 6, 2, 3, 1);
        CHECKS.due("promise 15: far(0, 2, 0)", net.far(0, 2, 0), 5);
        CHECKS.due("promise 15: far(3, 0, 0)", net.far(3, 0, 0), 6);
        CHECKS.due("promise 15: far(3, 3, 0)", net.far(3, 3, 0), 0);
        CHECKS.due("promise 15: far(0, 4, 0)", net.far(0, 4, 0), FewLines.NONE);
        CHECKS.due("promise 15: far(4, 4, 1)", net.far(4, 4, 1), 0);
        net.keep(0, 0);
        net.keep(2, 1);
        net.keep(3, 60);
        CHECKS.due("promise 15: far(0, 2, 1)", net.far(0, 2, 1), 6);
        CHECKS.due("promise 15: far(0, 3, 1)", net.far(0, 3, 1), 7);
        CHECKS.due("promise 15: far(0, 1, 1)", net.far(0, 1, 1), 9);
        CHECKS.due("promise 15: far(0, 1, 0)", net.far(0, 1, 0), 2);
        net.keep(3, 0);
        CHECKS.due("promise 15: far(0, 3, 1)", net.far(0, 3, 1), FewLines.NONE);
        FewLines longest = Checks.net(7, 0, 1, 9, 1, 2, 9, 2, 3, 9, 3, 4, 9, 4, 5, 9, 5, 6, 9);
        CHECKS.due("promise 15: far(6, 0, 1)", longest.far(6, 0, 1), 54);
    }

    private static void stretchIs(String name, FewLines net, int above, int below) {
        CHECKS.due("promise 16: stretch(0) " + name, net.stretch(0), above);
        CHECKS.due("promise 16: stretch(1) " + name, net.stretch(1), below);
    }

    private static void stretch() {
        FewLines net = Checks.net(4, 0, 1, 4, 1, 2, 4, 0, 2, 6);
        stretchIs("of a net and itself", net, 1, 1);
        net.keep(2, 60);
        stretchIs("of other weights", net, 1, 1);
        net.keep(2, 0);
        stretchIs("in lowest terms", net, 4, 3);
        net.keep(2, 1);
        net.keep(0, 0);
        stretchIs("of two nodes of three", net, 5, 2);
        // A heavy line that no shortest way takes counts nothing.
        FewLines heavy = Checks.net(3, 0, 1, 1, 1, 2, 1, 0, 2, 9);
        heavy.keep(2, 0);
        stretchIs("without a heavy line", heavy, 1, 1);
        FewLines far = Checks.ring(9, 9, 9, 9, 9, 9, 1);
        far.keep(6, 0);
        stretchIs("of the longest way", far, 54, 1);
    }

    private static void stretchNone() {
        stretchIs("without lines", new FewLines(), FewLines.NONE, FewLines.NONE);
        FewLines net = Checks.net(5, 0, 1, 2, 2, 3, 2);
        stretchIs("of two nets of parts", net, 1, 1);
        net.keep(1, 0);
        stretchIs("of a way that is no more", net, FewLines.NONE, FewLines.NONE);
    }

    private static void refused() {
        FewLines net = Checks.ring(5, 5, 5, 3);
        net.keep(1, 17);
        String before = Checks.state(net);
        for (int t : new int[] {0, 10, -1, MIN, MAX}) {
            CHECKS.due("promise 12: greedy(" + t + ")", net.greedy(t), FewLines.OUTSIDE);
            CHECKS.due("promise 13: fewest(" + t + ", 0)", net.fewest(t, 0), FewLines.OUTSIDE);
            CHECKS.due("promise 14: thin(" + t + ")", net.thin(t), FewLines.OUTSIDE);
        }
        for (int k : new int[] {-1, 13, MIN, MAX}) {
            CHECKS.due("promise 11: peel(" + k + ")", net.peel(k), FewLines.OUTSIDE);
        }
        for (int what : new int[] {-1, 2, MIN, MAX}) {
            CHECKS.due("promise 13: fewest(1, " + what + ")", net.fewest(1, what), FewLines.OUTSIDE);
            CHECKS.due("promise 15: far(0, 1, " + what + ")", net.far(0, 1, what), FewLines.OUTSIDE);
            CHECKS.due("promise 15: far(2, 2, " + what + ")", net.far(2, 2, what), FewLines.OUTSIDE);
            CHECKS.due("promise 15: far(0, 4, " + what + ")", net.far(0, 4, what), FewLines.UNKNOWN);
            CHECKS.due("promise 16: stretch(" + what + ")", net.stretch(what), FewLines.OUTSIDE);
            CHECKS.due("promise 16: stretch(" + what + ") without lines", new FewLines().stretch(what), FewLines.OUTSIDE);
        }
        for (int node : new int[] {-1, 4, 7, MIN, MAX}) {
            CHECKS.due("promise 15: far(0, " + node + ", 0)", net.far(0, node, 0), FewLines.UNKNOWN);
            CHECKS.due("promise 15: far(" + node + ", 0, 0)", net.far(node, 0, 0), FewLines.UNKNOWN);
            CHECKS.due("promise 15: far(" + node + ", itself, 0)", net.far(node, node, 0), FewLines.UNKNOWN);
        }
        CHECKS.state("what is refused", net, before);
    }
}
