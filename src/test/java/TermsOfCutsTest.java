/** Section 1 of the document's terms, SIDES and CUTS: each sentence that names a boundary, by itself. */
public final class TermsOfCutsTest {
    private static final Checks CHECKS = new Checks();

    public static void main(String[] args) {
        sides();
        cuts();
        heaviestCuts();
        sharesOfCutsAboveNothing();
        low();
        high();
        leastNumberOfSeveral();
        promiseNotBelow();
        promiseNotAbove();
        promiseForAllSides();
        promiseOfSidesWithoutLines();
        CHECKS.end();
    }

    private static void sides() {
        CHECKS.sentence("SIDES are sets of NODES (bits) with NODE 0, but not with all");
        for (int n = 2; n <= 7; n++) {
            FewLines net = Checks.row(Checks.same(n - 1, 1));
            int all = (1 << n) - 1;
            for (int side = 0; side <= all; side++) {
                boolean isSide = side % 2 == 1 && side != all;
                int changes = Integer.bitCount((side ^ side >> 1) & all >> 1);
                CHECKS.due("cut(" + side + ", 0) of " + n, net.cut(side, 0), isSide ? changes : FewLines.OUTSIDE);
                CHECKS.due("cut(" + side + ", 1) of " + n, net.cut(side, 1), isSide ? changes : FewLines.OUTSIDE);
            }
            for (int side : Checks.beside(0, all)) {
                CHECKS.due("cut(" + side + ", 0) of " + n, net.cut(side, 0), FewLines.OUTSIDE);
                CHECKS.due("cut(" + side + ", 1) of " + n, net.cut(side, 1), FewLines.OUTSIDE);
            }
            CHECKS.due("a node too many in a side of " + n, net.cut(1 + (1 << n), 0), FewLines.OUTSIDE);
        }
    }

    private static void cuts() {
        CHECKS.sentence("CUT of a net by a SIDE: the WEIGHTS of all LINES with one end in it, together");
        FewLines net = Checks.net(5, 0, 1, 1, 2, 3, 2, 1, 2, 4, 2, 1, 9);
        Checks.kept(net, 10, 20, 40, 0);
        CHECKS.due("cut(3, 0): both ends in, none in, one in", net.cut(3, 0), 13);
        CHECKS.due("cut(3, 1)", net.cut(3, 1), 40);
        CHECKS.due("cut(13, 0)", net.cut(13, 0), 14);
        CHECKS.due("cut(13, 1)", net.cut(13, 1), 50);
        CHECKS.due("cut(15, 0): all lines in it", net.cut(15, 0), 0);
        CHECKS.due("cut(15, 1): all lines in it", net.cut(15, 1), 0);
        for (int n = 2; n <= 7; n++) {
            CHECKS.due("cut(1, 0) without lines", Checks.net(n).cut(1, 0), 0);
            CHECKS.due("cut(1, 1) without lines", Checks.net(n).cut(1, 1), 0);
        }
    }

    private static void heaviestCuts() {
        CHECKS.sentence("CUT .. the WEIGHTS of all LINES .. together (12 at most, 1 .. 9, KEPT 0 .. 60)");
        // Nodes 0, 2, 4, 6: each line has one end in it.
        FewLines net = Checks.fullNet(9, 60);
        CHECKS.due("cut(85, 0)", net.cut(85, 0), 108);
        CHECKS.due("cut(85, 1)", net.cut(85, 1), 720);
        CHECKS.due("promise(20, 20)", net.promise(20, 20), 0);
        CHECKS.due("worst(0)", net.worst(0), 1);
        CHECKS.due("worst(1)", net.worst(1), 1);
    }

    private static void sharesOfCutsAboveNothing() {
        CHECKS.sentence("SHARE of a SIDE is THE THIN NET's CUT by THE NET's, if that is above 0 (else there is none)");
        for (int n = 3; n <= 7; n++) {
            FewLines net = Checks.net(n, n - 2, n - 1, 1);
            int firstPart = 1 | 1 << (n - 2);
            CHECKS.due("worst(0) of the last two of " + n, net.worst(0), firstPart);
            CHECKS.due("worst(1) of the last two of " + n, net.worst(1), firstPart);
            net.keep(0, 0);
            CHECKS.due("worst(0) of the last two of " + n + ", share 0", net.worst(0), firstPart);
            CHECKS.due("worst(1) of the last two of " + n + ", share 0", net.worst(1), firstPart);
            net.drop(0);
            CHECKS.due("worst(0) of none of " + n, net.worst(0), FewLines.NONE);
            CHECKS.due("worst(1) of none of " + n, net.worst(1), FewLines.NONE);
        }
        FewLines two = Checks.kept(Checks.net(2, 0, 1, 1), 0);
        CHECKS.due("worst(0) of the only side", two.worst(0), 1);
        CHECKS.due("worst(1) of the only side", two.worst(1), 1);
    }

    private static void low() {
        CHECKS.sentence("LOW: the SIDE with the least SHARE");
        // Shares of the sides 1, 3, 7: 8/9, 7/8, 6/7.
        FewLines near = Checks.kept(Checks.row(9, 8, 7), 8, 7, 6);
        CHECKS.due("worst(0) of shares close to each other", near.worst(0), 7);
        for (int hub = 0; hub < 7; hub++) {
            CHECKS.due("worst(0) of hub " + hub, wheel(7, hub, 3).worst(0), sideOf(7, hub));
        }
        FewLines nothing = Checks.kept(Checks.row(1, 9, 9), 0, 60, 0);
        CHECKS.due("worst(0) of shares of 0", nothing.worst(0), 1);
        FewLines more = Checks.kept(Checks.row(1, 9, 2), 60, 59, 60);
        CHECKS.due("worst(0) of shares above 1", more.worst(0), 3);
    }

    private static void high() {
        CHECKS.sentence("HIGH: that with the greatest");
        // Shares of the sides 1, 3, 7: 6/7, 7/8, 8/9.
        FewLines near = Checks.kept(Checks.row(7, 8, 9), 6, 7, 8);
        CHECKS.due("worst(1) of shares close to each other", near.worst(1), 7);
        for (int hub = 0; hub < 7; hub++) {
            CHECKS.due("worst(1) of hub " + hub, wheel(7, hub, 5).worst(1), sideOf(7, hub));
        }
        FewLines more = Checks.kept(Checks.row(2, 1, 9), 60, 60, 60);
        CHECKS.due("worst(1) of shares above 1", more.worst(1), 3);
        FewLines nothing = Checks.kept(Checks.row(1, 9, 9), 0, 0, 0);
        CHECKS.due("worst(1) of shares of 0", nothing.worst(1), 1);
    }

    private static void leastNumberOfSeveral() {
        CHECKS.sentence("of several the least number");
        for (int n = 2; n <= 7; n++) {
            FewLines like = Checks.row(Checks.same(n - 1, 3));
            CHECKS.due("worst(0) of shares of 1", like.worst(0), 1);
            CHECKS.due("worst(1) of shares of 1", like.worst(1), 1);
        }
        // 2/3 and 4/6 by the sides 3 and 7, 1/1 by side 1.
        FewLines low = Checks.kept(Checks.row(1, 3, 6), 1, 2, 4);
        CHECKS.due("worst(0) of like shares of unlike cuts", low.worst(0), 3);
        CHECKS.due("worst(1) of the other share", low.worst(1), 1);
        // 3/2 and 6/4 by the sides 3 and 7, 1/1 by side 1.
        FewLines high = Checks.kept(Checks.row(1, 4, 2), 1, 6, 3);
        CHECKS.due("worst(1) of like shares of unlike cuts", high.worst(1), 3);
        CHECKS.due("worst(0) of the other share", high.worst(0), 1);
    }

    /** Two nodes, so that there is one side and each promise can be told from its two cuts. */
    private static void promisesOf(int weight, int kept) {
        FewLines net = Checks.kept(Checks.net(2, 0, 1, weight), kept);
        for (int q = 1; q <= 20; q++) {
            for (int p = 1; p <= q; p++) {
                boolean holds = q * Math.abs(kept - weight) <= p * weight;
                CHECKS.due("promise(" + p + ", " + q + ") of " + kept + " by " + weight, net.promise(p, q), holds ? 1 : 0);
            }
        }
    }

    private static void promiseNotBelow() {
        CHECKS.sentence("THE PROMISE p / q: for all SIDES q times THE THIN NET's CUT is not below q - p times THE NET's");
        for (int weight = 1; weight <= 9; weight++) {
            for (int kept = 0; kept <= weight; kept++) {
                promisesOf(weight, kept);
            }
        }
    }

    private static void promiseNotAbove() {
        CHECKS.sentence("THE PROMISE p / q: .. not above q + p times it");
        for (int weight = 1; weight <= 9; weight++) {
            for (int kept = weight; kept <= 2 * weight + 1; kept++) {
                promisesOf(weight, kept);
            }
            promisesOf(weight, 60);
        }
    }

    private static void promiseForAllSides() {
        CHECKS.sentence("THE PROMISE p / q: for all SIDES");
        for (int n = 2; n <= 7; n++) {
            for (int line = 0; line < n - 1; line++) {
                FewLines net = Checks.row(Checks.same(n - 1, 4));
                net.keep(line, 3);
                CHECKS.due("promise(1, 4), line " + line + " of " + n, net.promise(1, 4), 1);
                CHECKS.due("promise(4, 17), line " + line + " of " + n, net.promise(4, 17), 0);
                net.keep(line, 5);
                CHECKS.due("promise(1, 4), line " + line + " of " + n, net.promise(1, 4), 1);
                CHECKS.due("promise(4, 17), line " + line + " of " + n, net.promise(4, 17), 0);
            }
        }
        for (int n = 4; n <= 7; n++) {
            for (int hub = 0; hub < n; hub++) {
                // Only the side that parts the hub from all others has no line that is kept as it is.
                FewLines net = wheel(n, hub, 3);
                CHECKS.due("promise(1, 4), hub " + hub + " of " + n, net.promise(1, 4), 1);
                CHECKS.due("promise(4, 17), hub " + hub + " of " + n, net.promise(4, 17), 0);
                net = wheel(n, hub, 5);
                CHECKS.due("promise(1, 4), heavy hub " + hub + " of " + n, net.promise(1, 4), 1);
                CHECKS.due("promise(4, 17), heavy hub " + hub + " of " + n, net.promise(4, 17), 0);
            }
        }
    }

    /** A ring of all nodes but the hub, lines of weight 4, and such a line from each of them to the hub. */
    private static FewLines wheel(int n, int hub, int keptAtHub) {
        FewLines net = Checks.net(n);
        for (int i = 1; i < n; i++) {
            int node = (hub + i) % n;
            int next = (hub + i % (n - 1) + 1) % n;
            net.line(node, next, 4);
            net.keep(net.line(hub, node, 4), keptAtHub);
        }
        return net;
    }

    private static int sideOf(int n, int hub) {
        return hub == 0 ? 1 : (1 << n) - 1 - (1 << hub);
    }

    private static void promiseOfSidesWithoutLines() {
        CHECKS.sentence("THE PROMISE p / q: for all SIDES (with a CUT of 0, too)");
        for (int n = 2; n <= 7; n++) {
            CHECKS.due("promise(1, 20) without lines", Checks.net(n).promise(1, 20), 1);
            CHECKS.due("promise(1, 1) without lines", Checks.net(n).promise(1, 1), 1);
        }
        FewLines net = Checks.kept(Checks.net(5, 1, 2, 9), 10);
        CHECKS.due("promise(1, 9) of parts", net.promise(1, 9), 1);
        CHECKS.due("promise(1, 10) of parts", net.promise(1, 10), 0);
    }
}
