/** Promises 17 to 19: trees, resistances and loads. */
public final class CurrentsTest {
    private static final int MIN = Integer.MIN_VALUE;
    private static final int MAX = Integer.MAX_VALUE;
    private static final Checks CHECKS = new Checks();

    public static void main(String[] args) {
        trees();
        treesOfHeavyNets();
        resistance();
        resistanceRefused();
        load();
        loadRefused();
        CHECKS.end();
    }

    private static void trees() {
        CHECKS.due("promise 17: trees(0) without lines", new FewLines().trees(0), 0);
        FewLines net = Checks.net(3, 0, 1, 2, 1, 2, 3, 0, 2, 6, 0, 1, 1);
        CHECKS.due("promise 17: trees(0)", net.trees(0), 3 * 3 + 3 * 6 + 6 * 3);
        net.keep(0, 60);
        net.keep(3, 0);
        CHECKS.due("promise 17: trees(0) of others kept", net.trees(0), 45);
        CHECKS.due("promise 17: trees(1)", net.trees(1), 60 * 3 + 60 * 6 + 3 * 6);
        net.keep(0, 0);
        net.keep(1, 0);
        CHECKS.due("promise 17: trees(1) of parts", net.trees(1), 0);
        for (int way : new int[] {-1, 2, MIN, MAX}) {
            CHECKS.due("promise 17: trees(" + way + ")", net.trees(way), -3);
        }
    }

    private static void treesOfHeavyNets() {
        // Two lines between each node and the next: the products are all choices of one of each.
        FewLines net = Checks.net(7);
        for (int line = 0; line < 12; line++) {
            net.line(line / 2, line / 2 + 1, 9);
            net.keep(line, 60);
        }
        CHECKS.due("promise 17: trees(0), heavy", net.trees(0), 34012224L);
        CHECKS.due("promise 17: trees(1), heavy", net.trees(1), 2985984000000L);
        CHECKS.due("promise 18: resistance(0, 6, 1, 0), heavy", net.resistance(0, 6, 1, 0), 1);
        CHECKS.due("promise 18: resistance(0, 6, 1, 1), heavy", net.resistance(0, 6, 1, 1), 20);
    }

    private static void resistanceIs(String name, FewLines net, int a, int b, int way, long above, long below) {
        String call = "promise 18: resistance(" + a + ", " + b + ", " + way + ", ";
        CHECKS.due(call + "0) " + name, net.resistance(a, b, way, 0), above);
        CHECKS.due(call + "1) " + name, net.resistance(a, b, way, 1), below);
    }

    private static void resistance() {
        FewLines two = Checks.net(2, 0, 1, 4, 0, 1, 6);
        resistanceIs("of two nodes", two, 1, 0, 0, 1, 10);
        FewLines row = Checks.net(4, 0, 1, 2, 1, 2, 3, 2, 3, 6);
        resistanceIs("in a row", row, 0, 3, 0, 1, 1);
        resistanceIs("in a row", row, 3, 1, 0, 1, 2);
        resistanceIs("in a row", row, 2, 0, 1, 5, 6);
        row.keep(0, 5);
        resistanceIs("of others kept", row, 0, 2, 1, 8, 15);
        resistanceIs("of others kept", row, 0, 2, 0, 5, 6);
        row.keep(2, 0);
        // All nodes must be joined, not only the two.
        resistanceIs("of parts", row, 0, 1, 1, -1, -1);
        resistanceIs("without lines", new FewLines(), 0, 1, 0, -1, -1);
        FewLines all = Checks.net(4, 0, 1, 1, 1, 2, 1, 2, 3, 1, 3, 0, 1, 0, 2, 1, 1, 3, 1);
        resistanceIs("of all lines", all, 2, 3, 0, 1, 2);
    }

    private static void resistanceRefused() {
        FewLines net = Checks.net(3, 0, 1, 2, 1, 2, 3);
        for (int node : new int[] {-1, 3, 7, MIN, MAX}) {
            CHECKS.due("promise 18: resistance(0, " + node + ", 0, 0)", net.resistance(0, node, 0, 0), -2);
            CHECKS.due("promise 18: resistance(" + node + ", 0, 0, 0)", net.resistance(node, 0, 0, 0), -2);
            CHECKS.due("promise 18: resistance(" + node + ", itself, 2, 2)", net.resistance(node, node, 2, 2), -2);
        }
        for (int other : new int[] {-1, 2, MIN, MAX}) {
            CHECKS.due("promise 18: resistance(0, 1, " + other + ", 0)", net.resistance(0, 1, other, 0), -3);
            CHECKS.due("promise 18: resistance(0, 1, 0, " + other + ")", net.resistance(0, 1, 0, other), -3);
        }
        CHECKS.due("promise 18: resistance(1, 1, 0, 0)", net.resistance(1, 1, 0, 0), -3);
        CHECKS.due("promise 18: resistance(1, 1, 0, 0) without trees", new FewLines().resistance(1, 1, 0, 0), -3);
        CHECKS.due("promise 18: resistance(0, 1, 0, 2) without trees", new FewLines().resistance(0, 1, 0, 2), -3);
    }

    private static void load() {
        FewLines net = Checks.net(4, 0, 1, 2, 2, 1, 3, 0, 2, 6, 2, 3, 9);
        long[][] want = {{1, 2}, {2, 3}, {5, 6}, {1, 1}};
        // What is kept has no share in it.
        net.keep(0, 0);
        net.keep(3, 0);
        for (int line = 0; line < 4; line++) {
            CHECKS.due("promise 19: load(" + line + ", 0)", net.load(line, 0), want[line][0]);
            CHECKS.due("promise 19: load(" + line + ", 1)", net.load(line, 1), want[line][1]);
        }
        net.drop(3);
        CHECKS.due("promise 19: load(0, 0) without trees", net.load(0, 0), -1);
        CHECKS.due("promise 19: load(0, 1) without trees", net.load(0, 1), -1);
    }

    private static void loadRefused() {
        FewLines net = Checks.net(3, 0, 1, 2);
        for (int line : new int[] {-1, 1, 12, MIN, MAX}) {
            CHECKS.due("promise 19: load(" + line + ", 0)", net.load(line, 0), -2);
            CHECKS.due("promise 19: load(" + line + ", 2)", net.load(line, 2), -2);
        }
        for (int part : new int[] {-1, 2, MIN, MAX}) {
            CHECKS.due("promise 19: load(0, " + part + ")", net.load(0, part), -3);
        }
    }
}
