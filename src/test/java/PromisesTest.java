/** The promises' own sentences, each by itself; what they take from the terms stands in the tests of these. */
public final class PromisesTest {
    private static final Checks CHECKS = new Checks();

    public static void main(String[] args) {
        newObject();
        noLinesAnyMore();
        lineKeptByItsWeight();
        lineItsNumber();
        lineIsNoMore();
        thoseBehindGetANumberLess();
        dropUnknown();
        keepThatWhichItWas();
        lesserNodeAndTheOther();
        atWhat();
        cutWay();
        worstNone();
        promiseNumbers();
        forestsWithoutLines();
        peelNumbers();
        howManyLinesAreKept();
        fewestNumbers();
        thinHowMany();
        farOfOneAndItself();
        stretchInLowestTerms();
        treesWay();
        resistanceInLowestTerms();
        loadInLowestTerms();
        countWhat();
        countGreatest();
        allCallsOfAnObject();
        CHECKS.end();
    }

    private static void newObject() {
        CHECKS.sentence("promise 1: Four NODES, no LINES");
        FewLines used = Checks.fullNet(9, 60);
        FewLines net = new FewLines();
        CHECKS.state("it is made beside another", net, "4 nodes:");
        CHECKS.due("at(0, 0)", net.at(0, 0), FewLines.UNKNOWN);
        CHECKS.due("drop(0)", net.drop(0), FewLines.UNKNOWN);
        CHECKS.due("forests()", net.forests(), 0);
        CHECKS.due("fewest(1, 0)", net.fewest(1, 0), 0);
        CHECKS.due("trees(0)", net.trees(0), 0);
        CHECKS.due("worst(0)", net.worst(0), FewLines.NONE);
        CHECKS.due("stretch(0)", net.stretch(0), FewLines.NONE);
        net.line(0, 1, 1);
        CHECKS.due("the other one's count(1)", used.count(1), 12);
    }

    private static void noLinesAnyMore() {
        CHECKS.sentence("promise 2: n NODES, no LINES any more: 1");
        for (int n = 2; n <= 7; n++) {
            FewLines net = Checks.fullNet(9, 60);
            net.fewest(1, 0);
            CHECKS.due("nodes(" + n + ")", net.nodes(n), 1);
            CHECKS.state("nodes(" + n + ")", net, n + " nodes:");
            CHECKS.due("at(0, 0)", net.at(0, 0), FewLines.UNKNOWN);
            CHECKS.due("count(3)", net.count(3), 0);
            CHECKS.due("count(4)", net.count(4), 0);
            CHECKS.due("cut(1, 0)", net.cut(1, 0), 0);
            CHECKS.due("trees(0)", net.trees(0), 0);
            CHECKS.due("forests()", net.forests(), 0);
            CHECKS.due("fewest(1, 1)", net.fewest(1, 1), 0);
            CHECKS.due("far(0, 1, 1)", net.far(0, 1, 1), FewLines.NONE);
            CHECKS.due("line(0, 1, 4)", net.line(0, 1, 4), 0);
            CHECKS.state("line(0, 1, 4)", net, n + " nodes: 0,1,4,4");
        }
    }

    private static void lineKeptByItsWeight() {
        CHECKS.sentence("promise 3: A LINE, KEPT by its WEIGHT");
        FewLines net = Checks.net(3, 0, 1, 2);
        net.keep(0, 0);
        net.line(1, 2, 9);
        CHECKS.state("line(1, 2, 9)", net, "3 nodes: 0,1,2,0 1,2,9,9");
        net.thin(1);
        net.line(2, 0, 1);
        CHECKS.state("thin(1) and line(2, 0, 1)", net, "3 nodes: 0,1,2,2 1,2,9,9 0,2,1,1");
    }

    private static void lineItsNumber() {
        CHECKS.sentence("promise 3: its number");
        FewLines net = new FewLines();
        for (int number = 0; number < 12; number++) {
            CHECKS.due("line", net.line(number % 4, (number + 1) % 4, 9), number);
        }
        for (int left = 11; left >= 0; left--) {
            net.drop(left / 2);
            CHECKS.due("line in the place of a dropped one", net.line(0, 3, 1), left);
            net.drop(left);
        }
    }

    private static void lineIsNoMore() {
        CHECKS.sentence("promise 4: A LINE is no more: 1");
        for (int line = 0; line < 3; line++) {
            FewLines net = Checks.ring(2, 3, 4);
            net.fewest(1, 0);
            CHECKS.due("drop(" + line + ")", net.drop(line), 1);
            CHECKS.due("count(1)", net.count(1), 2);
            CHECKS.due("count(3)", net.count(3), 9 - 2 - line);
            CHECKS.due("count(4)", net.count(4), 9 - 2 - line);
            CHECKS.due("trees(0)", net.trees(0), 24 / (2 + line));
            CHECKS.due("forests()", net.forests(), 1);
            CHECKS.due("fewest(1, 1)", net.fewest(1, 1), 3);
            CHECKS.due("far of its ends", net.far(line, (line + 1) % 3, 0), 9 - 2 - line);
            CHECKS.due("at(2, 0)", net.at(2, 0), FewLines.UNKNOWN);
        }
    }

    private static void thoseBehindGetANumberLess() {
        CHECKS.sentence("promise 4: (those behind it get a number less)");
        for (int dropped = 0; dropped < 12; dropped++) {
            FewLines net = Checks.net(7);
            for (int line = 0; line < 12; line++) {
                net.line(line % 6, line % 6 + 1, 1 + line % 9);
                net.keep(line, 40 + line);
            }
            net.drop(dropped);
            for (int now = 0; now < 11; now++) {
                int before = now < dropped ? now : now + 1;
                String told = "what was line " + before + ", is " + now;
                CHECKS.due("at 0 of " + told, net.at(now, 0), before % 6);
                CHECKS.due("at 1 of " + told, net.at(now, 1), before % 6 + 1);
                CHECKS.due("at 2 of " + told, net.at(now, 2), 1 + before % 9);
                CHECKS.due("at 3 of " + told, net.at(now, 3), 40 + before);
                // Of the two lines of two nodes the one that is left has no other before it.
                CHECKS.due("at 4 of " + told, net.at(now, 4), before < 6 || before - 6 == dropped ? 1 : 2);
            }
            CHECKS.due("at(11, 0)", net.at(11, 0), FewLines.UNKNOWN);
        }
    }

    private static void dropUnknown() {
        CHECKS.sentence("promise 4: UNKNOWN");
        FewLines net = Checks.ring(1, 1, 1);
        for (int left = 3; left > 0; left--) {
            CHECKS.due("drop(" + left + ")", net.drop(left), FewLines.UNKNOWN);
            CHECKS.due("drop(-1)", net.drop(-1), FewLines.UNKNOWN);
            CHECKS.due("drop(" + (left - 1) + ")", net.drop(left - 1), 1);
        }
        CHECKS.due("drop(0) without lines", net.drop(0), FewLines.UNKNOWN);
    }

    private static void keepThatWhichItWas() {
        CHECKS.sentence("promise 5: KEPT of a LINE: that which it was");
        FewLines net = Checks.fullNet(9, 9);
        for (int line = 0; line < 12; line++) {
            CHECKS.due("keep(" + line + ", 60)", net.keep(line, 60), 9);
            CHECKS.due("keep(" + line + ", 60) again", net.keep(line, 60), 60);
            CHECKS.due("keep(" + line + ", 0)", net.keep(line, 0), 60);
            CHECKS.due("keep(" + line + ", " + line + ")", net.keep(line, line), 0);
        }
        for (int line = 0; line < 12; line++) {
            CHECKS.due("at(" + line + ", 3)", net.at(line, 3), line);
            CHECKS.due("at(" + line + ", 2)", net.at(line, 2), 9);
        }
    }

    private static void lesserNodeAndTheOther() {
        CHECKS.sentence("promise 6: Of a LINE: 0 the lesser NODE, 1 the other");
        for (int a = 0; a < 7; a++) {
            for (int b = 0; b < a; b++) {
                FewLines net = Checks.net(7, a, b, 1, b, a, 1);
                for (int line = 0; line < 2; line++) {
                    CHECKS.due("at(" + line + ", 0) of " + a + " and " + b, net.at(line, 0), b);
                    CHECKS.due("at(" + line + ", 1) of " + a + " and " + b, net.at(line, 1), a);
                }
            }
        }
    }

    private static void atWhat() {
        CHECKS.sentence("promise 6: .. 2 WEIGHT, 3 KEPT, 4 FOREST. UNKNOWN; OUTSIDE");
        FewLines net = Checks.kept(Checks.net(7, 6, 5, 9, 5, 6, 1), 1, 60);
        int[][] want = {{5, 6, 9, 1, 1}, {5, 6, 1, 60, 2}};
        for (int what = 0; what <= 4; what++) {
            CHECKS.due("at(0, " + what + ")", net.at(0, what), want[0][what]);
            CHECKS.due("at(1, " + what + ")", net.at(1, what), want[1][what]);
            CHECKS.due("at(2, " + what + ")", net.at(2, what), FewLines.UNKNOWN);
            CHECKS.due("at(-1, " + what + ")", net.at(-1, what), FewLines.UNKNOWN);
        }
        for (int what : Checks.beside(0, 4)) {
            CHECKS.due("at(1, " + what + ")", net.at(1, what), FewLines.OUTSIDE);
        }
    }

    private static void cutWay() {
        CHECKS.sentence("promise 7: CUT by a SIDE: of THE NET (way 0), THE THIN NET (1). OUTSIDE: also no SIDE");
        FewLines net = Checks.kept(Checks.net(2, 0, 1, 9), 60);
        CHECKS.due("cut(1, 0)", net.cut(1, 0), 9);
        CHECKS.due("cut(1, 1)", net.cut(1, 1), 60);
        for (int way : Checks.beside(0, 1)) {
            CHECKS.due("cut(1, " + way + ")", net.cut(1, way), FewLines.OUTSIDE);
            CHECKS.due("cut(0, " + way + ")", net.cut(0, way), FewLines.OUTSIDE);
        }
        CHECKS.due("cut(3, 0)", net.cut(3, 0), FewLines.OUTSIDE);
        CHECKS.due("cut(3, 1)", net.cut(3, 1), FewLines.OUTSIDE);
    }

    private static void worstNone() {
        CHECKS.sentence("promise 8: LOW (way 0), HIGH (1); NONE: no SIDE has a SHARE. OUTSIDE");
        for (int n = 2; n <= 7; n++) {
            FewLines net = Checks.net(n);
            CHECKS.due("worst(0) of " + n + " without lines", net.worst(0), FewLines.NONE);
            CHECKS.due("worst(1) of " + n + " without lines", net.worst(1), FewLines.NONE);
            net.line(0, n - 1, 1);
            net.keep(0, 0);
            CHECKS.due("worst(0) of " + n + ", nothing kept", net.worst(0), 1);
            CHECKS.due("worst(1) of " + n + ", nothing kept", net.worst(1), 1);
        }
        FewLines net = Checks.kept(Checks.row(1, 1), 2, 0);
        CHECKS.due("worst(0)", net.worst(0), 3);
        CHECKS.due("worst(1)", net.worst(1), 1);
        for (int way : Checks.beside(0, 1)) {
            CHECKS.due("worst(" + way + ")", net.worst(way), FewLines.OUTSIDE);
        }
    }

    private static void promiseNumbers() {
        CHECKS.sentence("promise 9: Whether THE PROMISE p / q (1 .. 20 each, p not above q) holds: 1, 0. OUTSIDE");
        for (int p = -1; p <= 22; p++) {
            FewLines all = Checks.net(2, 0, 1, 9);
            FewLines none = Checks.kept(Checks.net(2, 0, 1, 1), 60);
            for (int q = -1; q <= 22; q++) {
                boolean isTold = p >= 1 && q <= 20 && p <= q;
                CHECKS.due("promise(" + p + ", " + q + "), kept", all.promise(p, q), isTold ? 1 : FewLines.OUTSIDE);
                CHECKS.due("promise(" + p + ", " + q + "), heavy", none.promise(p, q), isTold ? 0 : FewLines.OUTSIDE);
            }
        }
        FewLines net = Checks.net(2, 0, 1, 9);
        for (int wild : Checks.beside(1, 20)) {
            CHECKS.due("promise(" + wild + ", 20)", net.promise(wild, 20), FewLines.OUTSIDE);
            CHECKS.due("promise(1, " + wild + ")", net.promise(1, wild), FewLines.OUTSIDE);
            CHECKS.due("promise(" + wild + ", itself)", net.promise(wild, wild), FewLines.OUTSIDE);
        }
    }

    private static void forestsWithoutLines() {
        CHECKS.sentence("promise 10: How many FORESTS; 0 without LINES");
        for (int n = 2; n <= 7; n++) {
            FewLines net = Checks.net(n);
            CHECKS.due("forests() of " + n, net.forests(), 0);
            net.line(0, 1, 1);
            CHECKS.due("forests() of one line", net.forests(), 1);
            net.keep(0, 0);
            CHECKS.due("forests() of one line that is not kept", net.forests(), 1);
            net.drop(0);
            CHECKS.due("forests() of a dropped line", net.forests(), 0);
        }
    }

    private static void peelNumbers() {
        CHECKS.sentence("promise 11: PEELED to k (0 .. 12): how many LINES are KEPT. OUTSIDE");
        FewLines net = Checks.kept(Checks.ring(4, 5, 6), 1, 2, 3);
        for (int k : Checks.beside(0, 12)) {
            CHECKS.due("peel(" + k + ")", net.peel(k), FewLines.OUTSIDE);
        }
        CHECKS.state("peel refused", net, "3 nodes: 0,1,4,1 1,2,5,2 0,2,6,3");
        for (int k = 0; k <= 12; k++) {
            CHECKS.due("peel(" + k + ")", net.peel(k), k == 0 ? 0 : k == 1 ? 2 : 3);
            CHECKS.due("peel(" + k + ") without lines", new FewLines().peel(k), 0);
        }
    }

    private static void howManyLinesAreKept() {
        CHECKS.sentence("promise 12: GREEDY by t: how many LINES are KEPT");
        for (int t = 1; t <= 9; t++) {
            FewLines net = Checks.fullNet(9, 60);
            CHECKS.due("greedy(" + t + ") of each line twice", net.greedy(t), 6);
            CHECKS.due("count(2)", net.count(2), 6);
            CHECKS.due("count(4)", net.count(4), 54);
        }
        FewLines sides = Checks.net(7);
        for (int line = 0; line < 12; line++) {
            sides.line(line % 3, 3 + line / 3, 9);
        }
        CHECKS.due("greedy(2) of all lines of three nodes and four", sides.greedy(2), 12);
        CHECKS.due("greedy(3) of all lines of three nodes and four", sides.greedy(3), 6);
    }

    private static void fewestNumbers() {
        CHECKS.sentence("promise 13: FEWEST by t (1 .. 9): how many LINES (what 0), the set of them (1). OUTSIDE");
        FewLines net = Checks.net(2, 0, 1, 9, 0, 1, 1);
        for (int t : Checks.beside(1, 9)) {
            CHECKS.due("fewest(" + t + ", 0)", net.fewest(t, 0), FewLines.OUTSIDE);
            CHECKS.due("fewest(" + t + ", 1)", net.fewest(t, 1), FewLines.OUTSIDE);
        }
        for (int what : Checks.beside(0, 1)) {
            CHECKS.due("fewest(1, " + what + ")", net.fewest(1, what), FewLines.OUTSIDE);
            CHECKS.due("fewest(0, " + what + ")", net.fewest(0, what), FewLines.OUTSIDE);
        }
        for (int t = 1; t <= 9; t++) {
            CHECKS.due("fewest(" + t + ", 0)", net.fewest(t, 0), 1);
            CHECKS.due("fewest(" + t + ", 1)", net.fewest(t, 1), t < 9 ? 2 : 1);
        }
    }

    private static void thinHowMany() {
        CHECKS.sentence("promise 14: FEWEST by t are KEPT: how many. OUTSIDE");
        FewLines net = Checks.kept(Checks.net(2, 0, 1, 9, 0, 1, 1), 33, 44);
        for (int t : Checks.beside(1, 9)) {
            CHECKS.due("thin(" + t + ")", net.thin(t), FewLines.OUTSIDE);
        }
        CHECKS.state("thin refused", net, "2 nodes: 0,1,9,33 0,1,1,44");
        for (int t = 1; t <= 9; t++) {
            CHECKS.due("thin(" + t + ")", net.thin(t), 1);
            CHECKS.state("thin(" + t + ")", net, t < 9 ? "2 nodes: 0,1,9,0 0,1,1,1" : "2 nodes: 0,1,9,9 0,1,1,0");
        }
        FewLines full = Checks.kept(Checks.fullNet(9, 60), 0);
        CHECKS.due("thin(1) of a full net", full.thin(1), 6);
        for (int line = 0; line < 12; line++) {
            CHECKS.due("at(" + line + ", 3)", full.at(line, 3), line % 2 == 0 ? 9 : 0);
        }
    }

    private static void farOfOneAndItself() {
        CHECKS.sentence("promise 15: FAR of two NODES .. (of one and itself 0); NONE. UNKNOWN; OUTSIDE");
        for (int n = 2; n <= 7; n++) {
            FewLines empty = Checks.net(n);
            FewLines row = Checks.row(Checks.same(n - 1, 9));
            for (int node = 0; node < n; node++) {
                CHECKS.due("far of " + node + " and itself, no lines", empty.far(node, node, 0), 0);
                CHECKS.due("far of " + node + " and itself, no lines", empty.far(node, node, 1), 0);
                CHECKS.due("far of " + node + " and itself", row.far(node, node, 0), 0);
                CHECKS.due("far of " + node + " and itself", row.far(node, node, 1), 0);
            }
            CHECKS.due("far of " + n + " and itself", row.far(n, n, 0), FewLines.UNKNOWN);
            CHECKS.due("far(0, n - 1, 0)", empty.far(0, n - 1, 0), FewLines.NONE);
            for (int way : Checks.beside(0, 1)) {
                CHECKS.due("far(0, 1, " + way + ")", row.far(0, 1, way), FewLines.OUTSIDE);
                CHECKS.due("far(1, 1, " + way + ")", row.far(1, 1, way), FewLines.OUTSIDE);
            }
        }
    }

    private static void stretchInLowestTerms() {
        CHECKS.sentence("promise 16: STRETCH in lowest terms: what is above (part 0), below (1); NONE. OUTSIDE");
        for (int heavy = 1; heavy <= 9; heavy++) {
            for (int light = 1; light <= heavy; light++) {
                FewLines net = Checks.kept(Checks.net(2, 0, 1, heavy, 0, 1, light), 1, 0);
                int above = net.stretch(0);
                int below = net.stretch(1);
                CHECKS.due("stretch of " + heavy + " by " + light, above * light, below * heavy);
                for (int divisor = 2; divisor <= 9; divisor++) {
                    CHECKS.holds("lowest terms of " + heavy + " by " + light, above % divisor != 0 || below % divisor != 0);
                }
            }
        }
        FewLines net = Checks.row(9, 9);
        for (int part : Checks.beside(0, 1)) {
            CHECKS.due("stretch(" + part + ")", net.stretch(part), FewLines.OUTSIDE);
        }
        net.keep(1, 0);
        CHECKS.due("stretch(0) without a way", net.stretch(0), FewLines.NONE);
        CHECKS.due("stretch(1) without a way", net.stretch(1), FewLines.NONE);
    }

    private static void treesWay() {
        CHECKS.sentence("promise 17: TREES of THE NET (way 0), THE THIN NET (1). -3 OUTSIDE");
        FewLines net = Checks.kept(Checks.row(9, 9), 60, 60);
        CHECKS.due("trees(0)", net.trees(0), 81);
        CHECKS.due("trees(1)", net.trees(1), 3600);
        for (int way : Checks.beside(0, 1)) {
            CHECKS.due("trees(" + way + ")", net.trees(way), -3);
        }
    }

    private static void resistanceInLowestTerms() {
        CHECKS.sentence("promise 18: RESISTANCE .. in lowest terms: .. -1 NONE. -2 UNKNOWN; -3 OUTSIDE: also a NODE and itself");
        FewLines net = Checks.kept(Checks.row(4, 6), 60, 40);
        CHECKS.due("resistance(0, 2, 0, 0), 10 by 24", net.resistance(0, 2, 0, 0), 5);
        CHECKS.due("resistance(0, 2, 0, 1), 10 by 24", net.resistance(0, 2, 0, 1), 12);
        CHECKS.due("resistance(0, 2, 1, 0), 100 by 2400", net.resistance(0, 2, 1, 0), 1);
        CHECKS.due("resistance(0, 2, 1, 1), 100 by 2400", net.resistance(0, 2, 1, 1), 24);
        for (int node = 0; node < 3; node++) {
            CHECKS.due("resistance of " + node + " and itself", net.resistance(node, node, 0, 0), -3);
        }
        CHECKS.due("resistance of 3 and itself", net.resistance(3, 3, 0, 0), -2);
        for (int wild : Checks.beside(0, 1)) {
            CHECKS.due("resistance(0, 1, " + wild + ", 0)", net.resistance(0, 1, wild, 0), -3);
            CHECKS.due("resistance(0, 1, 1, " + wild + ")", net.resistance(0, 1, 1, wild), -3);
            CHECKS.due("resistance(1, 1, " + wild + ", " + wild + ")", net.resistance(1, 1, wild, wild), -3);
        }
        net.keep(0, 0);
        CHECKS.due("resistance(1, 2, 1, 0) without trees", net.resistance(1, 2, 1, 0), -1);
        CHECKS.due("resistance(1, 2, 1, 1) without trees", net.resistance(1, 2, 1, 1), -1);
    }

    private static void loadInLowestTerms() {
        CHECKS.sentence("promise 19: LOAD .. in lowest terms: part 0, 1; -1 NONE (THE NET has no TREES). -2 UNKNOWN; -3 OUTSIDE");
        FewLines net = Checks.net(2, 0, 1, 6, 0, 1, 4);
        CHECKS.due("load(0, 0), 6 by 10", net.load(0, 0), 3);
        CHECKS.due("load(0, 1), 6 by 10", net.load(0, 1), 5);
        for (int part : Checks.beside(0, 1)) {
            CHECKS.due("load(0, " + part + ")", net.load(0, part), -3);
            CHECKS.due("load(2, " + part + ")", net.load(2, part), -2);
        }
        FewLines parts = Checks.net(3, 0, 1, 6);
        CHECKS.due("load(0, 0) without trees", parts.load(0, 0), -1);
        CHECKS.due("load(0, 1) without trees", parts.load(0, 1), -1);
        CHECKS.due("load(1, 0) without trees", parts.load(1, 0), -2);
        CHECKS.due("load(0, 0) without lines", new FewLines().load(0, 0), -2);
    }

    private static void countWhat() {
        CHECKS.sentence("promise 20: 0 NODES, 1 LINES, 2 KEPT ones (above 0), 3 all WEIGHTS, 4 all KEPT together. OUTSIDE");
        FewLines net = Checks.kept(Checks.net(7, 0, 1, 9, 1, 2, 8, 2, 3, 7), 0, 1, 60);
        int[] want = {7, 3, 2, 24, 61};
        for (int what = 0; what <= 4; what++) {
            CHECKS.due("count(" + what + ")", net.count(what), want[what]);
        }
        for (int what : Checks.beside(0, 4)) {
            CHECKS.due("count(" + what + ")", net.count(what), FewLines.OUTSIDE);
        }
    }

    private static void countGreatest() {
        CHECKS.sentence("promise 20: (of twelve LINES, and of none)");
        int[] most = {7, 12, 12, 108, 720};
        int[] nothingKept = {7, 12, 0, 108, 0};
        int[] nothing = {2, 0, 0, 0, 0};
        for (int what = 0; what <= 4; what++) {
            CHECKS.due("count(" + what + "), the most", Checks.fullNet(9, 60).count(what), most[what]);
            CHECKS.due("count(" + what + "), nothing kept", Checks.fullNet(9, 0).count(what), nothingKept[what]);
            CHECKS.due("count(" + what + "), no lines", Checks.net(2).count(what), nothing[what]);
        }
    }

    private static void allCallsOfAnObject() {
        CHECKS.sentence("An object is used for at most 512 calls after it has been made");
        FewLines net = new FewLines();
        for (int call = 0; call < Checks.MOST_CALLS; call += 2) {
            CHECKS.due("line, call " + call, net.line(call % 3, 3, 9), 0);
            CHECKS.due("drop, call " + (call + 1), net.drop(0), 1);
        }
        FewLines thinned = Checks.fullNet(9, 9);
        for (int call = 25; call < Checks.MOST_CALLS - 3; call += 4) {
            CHECKS.due("drop, call " + call, thinned.drop(0), 1);
            CHECKS.due("line, call " + (call + 1), thinned.line(0, 1, 9), 11);
            CHECKS.due("line, call " + (call + 2), thinned.line(0, 1, 9), FewLines.FULL);
            CHECKS.due("keep, call " + (call + 3), thinned.keep(11, 60), 9);
        }
        CHECKS.due("fewest, one of the last calls", thinned.fewest(9, 0), 1);
        CHECKS.due("peel, one of the last calls", thinned.peel(12), 12);
    }
}
