/** Promises 7 to 9: cuts of both nets, the worst ones, whether a told promise holds. */
public final class CutsTest {
    private static final int MIN = Integer.MIN_VALUE;
    private static final int MAX = Integer.MAX_VALUE;
    private static final Checks CHECKS = new Checks();

    public static void main(String[] args) {
        cut();
        cutRefused();
        worst();
        worstOfSeveral();
        worstOfSidesWithShare();
        promise();
        promiseRefused();
        CHECKS.end();
    }

    private static void cut() {
        FewLines net = Checks.net(4, 0, 1, 1, 1, 2, 2, 2, 3, 4, 0, 3, 8, 0, 3, 3);
        net.keep(0, 10);
        net.keep(4, 0);
        int[] sides = {1, 3, 5, 7, 9, 11, 13};
        int[] inNet = {12, 13, 18, 15, 5, 6, 3};
        int[] inThin = {18, 10, 24, 12, 14, 6, 12};
        for (int i = 0; i < sides.length; i++) {
            CHECKS.due("promise 7: cut(" + sides[i] + ", 0)", net.cut(sides[i], 0), inNet[i]);
            CHECKS.due("promise 7: cut(" + sides[i] + ", 1)", net.cut(sides[i], 1), inThin[i]);
        }
        CHECKS.due("promise 7: cut without lines", new FewLines().cut(1, 0), 0);
        FewLines seven = Checks.net(7, 5, 6, 9);
        CHECKS.due("promise 7: cut(63, 0)", seven.cut(63, 0), 9);
        CHECKS.due("promise 7: cut(125, 0)", seven.cut(125, 0), 0);
    }

    private static void cutRefused() {
        FewLines net = Checks.net(4, 0, 1, 1, 1, 2, 2);
        for (int side : new int[] {0, 2, 4, 14, 15, 16, 17, 31, -1, -15, MIN, MIN + 1, MAX}) {
            CHECKS.due("promise 7: cut(" + side + ", 0)", net.cut(side, 0), FewLines.OUTSIDE);
            CHECKS.due("promise 7: cut(" + side + ", 1)", net.cut(side, 1), FewLines.OUTSIDE);
        }
        for (int way : new int[] {-1, 2, MIN, MAX}) {
            CHECKS.due("promise 7: cut(1, " + way + ")", net.cut(1, way), FewLines.OUTSIDE);
        }
    }

    private static void worst() {
        FewLines net = Checks.net(3, 0, 1, 2, 1, 2, 3, 0, 2, 4);
        net.keep(0, 4);
        net.keep(2, 1);
        // Sides 1, 3, 5 have the shares 5/6, 4/7, 7/5.
        CHECKS.due("promise 8: worst(0)", net.worst(0), 3);
        CHECKS.due("promise 8: worst(1)", net.worst(1), 5);
        for (int way : new int[] {-1, 2, MIN, MAX}) {
            CHECKS.due("promise 8: worst(" + way + ")", net.worst(way), FewLines.OUTSIDE);
        }
        FewLines two = Checks.net(2, 0, 1, 9);
        two.keep(0, 0);
        CHECKS.due("promise 8: worst(0) of one side", two.worst(0), 1);
        CHECKS.due("promise 8: worst(1) of one side", two.worst(1), 1);
    }

    private static void worstOfSeveral() {
        FewLines same = Checks.net(4, 0, 1, 1, 1, 2, 1, 2, 3, 1);
        CHECKS.due("promise 8: worst(0) of like shares", same.worst(0), 1);
        CHECKS.due("promise 8: worst(1) of like shares", same.worst(1), 1);
        FewLines net = Checks.net(4, 0, 1, 1, 1, 2, 2, 2, 3, 1);
        net.keep(0, 2);
        net.keep(1, 4);
        net.keep(2, 2);
        CHECKS.due("promise 8: worst(1) of doubled lines", net.worst(1), 1);
        net.keep(0, 1);
        // Sides 3 and 7 have the like shares 4/2 and 2/1.
        CHECKS.due("promise 8: worst(1) of the others doubled", net.worst(1), 3);
        CHECKS.due("promise 8: worst(0) of the others doubled", net.worst(0), 1);
    }

    private static void worstOfSidesWithShare() {
        CHECKS.due("promise 8: worst(0) without lines", new FewLines().worst(0), FewLines.NONE);
        CHECKS.due("promise 8: worst(1) without lines", new FewLines().worst(1), FewLines.NONE);
        FewLines net = Checks.net(5, 1, 3, 2);
        CHECKS.due("promise 8: worst(0) behind a side without share", net.worst(0), 3);
        CHECKS.due("promise 8: worst(1) behind a side without share", net.worst(1), 3);
        net.keep(0, 0);
        CHECKS.due("promise 8: worst(0), share 0", net.worst(0), 3);
        CHECKS.due("promise 8: worst(1), share 0", net.worst(1), 3);
    }

    private static void promise() {
        FewLines net = Checks.net(3, 0, 1, 5, 1, 2, 5);
        CHECKS.due("promise 9: promise(1, 20), alike", net.promise(1, 20), 1);
        net.keep(0, 4);
        CHECKS.due("promise 9: promise(1, 5), just not below", net.promise(1, 5), 1);
        CHECKS.due("promise 9: promise(3, 16), below", net.promise(3, 16), 0);
        net.keep(0, 6);
        CHECKS.due("promise 9: promise(1, 5), just not above", net.promise(1, 5), 1);
        CHECKS.due("promise 9: promise(3, 16), above", net.promise(3, 16), 0);
        net.keep(0, 5);
        net.keep(1, 10);
        CHECKS.due("promise 9: promise(20, 20), doubled", net.promise(20, 20), 1);
        CHECKS.due("promise 9: promise(19, 20), doubled", net.promise(19, 20), 0);
        net.keep(1, 11);
        CHECKS.due("promise 9: promise(1, 1), more than doubled", net.promise(1, 1), 0);
        net.keep(1, 0);
        CHECKS.due("promise 9: promise(1, 1), nothing kept", net.promise(1, 1), 1);
        CHECKS.due("promise 9: promise(19, 20), nothing kept", net.promise(19, 20), 0);
        CHECKS.due("promise 9: promise(1, 20) without lines", new FewLines().promise(1, 20), 1);
    }

    private static void promiseRefused() {
        FewLines net = Checks.net(3, 0, 1, 5);
        int[][] refused = {{0, 1}, {0, 0}, {1, 0}, {2, 1}, {20, 19}, {1, 21}, {21, 21}, {21, 20}, {-1, 5}, {1, -1},
            {-2, -1}, {MIN, 1}, {1, MIN}, {MAX, MAX}, {1, MAX}, {MAX, 1}};
        for (int[] row : refused) {
            CHECKS.due("promise 9: promise(" + row[0] + ", " + row[1] + ")", net.promise(row[0], row[1]), FewLines.OUTSIDE);
        }
        CHECKS.due("promise 9: promise(1, 1)", net.promise(1, 1), 1);
        CHECKS.due("promise 9: promise(20, 20)", net.promise(20, 20), 1);
    }
}
