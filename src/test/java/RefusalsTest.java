import java.util.LinkedHashMap;
import java.util.Map;
import java.util.function.Supplier;
import java.util.function.ToLongFunction;

/** What is refused, in nets of all kinds: the first refusal that fits, and nothing changes. */
public final class RefusalsTest {
    private static final Checks CHECKS = new Checks();
    private static final Map<String, Supplier<FewLines>> NETS = new LinkedHashMap<>();

    static {
        NETS.put("a new net", FewLines::new);
        NETS.put("two nodes and a line that is not kept", () -> Checks.kept(Checks.net(2, 0, 1, 3), 0));
        NETS.put("a ring", () -> Checks.kept(Checks.ring(5, 5, 5, 3), 17, 0, 60, 3));
        NETS.put("two parts", () -> Checks.net(5, 0, 1, 2, 2, 3, 4, 2, 3, 9));
        NETS.put("a full net", () -> Checks.kept(Checks.fullNet(9, 60), 0, 1, 9));
    }

    public static void main(String[] args) {
        noSuchNode();
        noSuchLine();
        anotherNumber();
        anotherNumberOfLines();
        full();
        notNow();
        unknownIsFirst();
        outsideBeforeFull();
        refusedBeforeNone();
        askingChangesNothing();
        CHECKS.end();
    }

    /** The call, on each of the nets: what it answers, and that all the net's answers stay. */
    private static void refused(String name, ToLongFunction<FewLines> call, int want) {
        NETS.forEach((kind, made) -> refused(name, call, want, kind, made));
    }

    private static void refused(String name, ToLongFunction<FewLines> call, int want, String kind, Supplier<FewLines> made) {
        FewLines net = made.get();
        CHECKS.due(name + " of " + kind, call.applyAsLong(net), want);
        CHECKS.holds("nothing changes by " + name + " of " + kind, answers(net).equals(answers(made.get())));
    }

    private static int nodesOf(FewLines net) {
        return net.count(0);
    }

    private static int linesOf(FewLines net) {
        return net.count(1);
    }

    /** What all calls that ask answer; with the calls that make a net they are below 512. */
    private static String answers(FewLines net) {
        StringBuilder text = new StringBuilder(Checks.state(net));
        int n = nodesOf(net);
        for (int way = 0; way <= 1; way++) {
            for (int side = 1; side < (1 << n) - 1; side += 2) {
                text.append(' ').append(net.cut(side, way));
            }
            for (int a = 0; a < n; a++) {
                for (int b = 0; b < a; b++) {
                    text.append(' ').append(net.far(a, b, way)).append(' ').append(net.resistance(a, b, way, 0));
                }
            }
            text.append(' ').append(net.worst(way)).append(' ').append(net.stretch(way)).append(' ').append(net.trees(way));
            text.append(' ').append(net.promise(1, 1 + way * 19)).append(' ').append(net.forests());
        }
        for (int line = linesOf(net) - 1; line >= 0; line--) {
            text.append(' ').append(net.at(line, 4)).append(' ').append(net.load(line, 0)).append(' ').append(net.load(line, 1));
        }
        for (int t = 1; t <= 9; t++) {
            text.append(' ').append(net.fewest(t, 1));
        }
        return text.append(' ').append(net.count(2)).append(' ').append(net.count(3)).append(' ').append(net.count(4)).toString();
    }

    private static void noSuchNode() {
        CHECKS.sentence("Refused, and nothing changes: UNKNOWN (no such NODE)");
        for (int wild : new int[] {-1, Checks.MIN, Checks.MAX}) {
            refused("line from " + wild, net -> net.line(wild, 0, 1), FewLines.UNKNOWN);
            refused("line to " + wild, net -> net.line(0, wild, 1), FewLines.UNKNOWN);
            refused("far from " + wild, net -> net.far(wild, 0, 0), FewLines.UNKNOWN);
            refused("far to " + wild, net -> net.far(0, wild, 1), FewLines.UNKNOWN);
            refused("resistance from " + wild, net -> net.resistance(wild, 0, 0, 0), FewLines.UNKNOWN);
            refused("resistance to " + wild, net -> net.resistance(0, wild, 1, 1), FewLines.UNKNOWN);
        }
        refused("line from n", net -> net.line(nodesOf(net), 0, 1), FewLines.UNKNOWN);
        refused("line to n", net -> net.line(0, nodesOf(net), 1), FewLines.UNKNOWN);
        refused("far from n", net -> net.far(nodesOf(net), 0, 0), FewLines.UNKNOWN);
        refused("far to n", net -> net.far(0, nodesOf(net), 1), FewLines.UNKNOWN);
        refused("resistance from n", net -> net.resistance(nodesOf(net), 0, 0, 0), FewLines.UNKNOWN);
        refused("resistance to n", net -> net.resistance(0, nodesOf(net), 1, 1), FewLines.UNKNOWN);
    }

    private static void noSuchLine() {
        CHECKS.sentence("Refused, and nothing changes: UNKNOWN (no such LINE)");
        for (int wild : new int[] {-1, 12, Checks.MIN, Checks.MAX}) {
            refused("drop(" + wild + ")", net -> net.drop(wild), FewLines.UNKNOWN);
            refused("keep(" + wild + ", 1)", net -> net.keep(wild, 1), FewLines.UNKNOWN);
            refused("at(" + wild + ", 0)", net -> net.at(wild, 0), FewLines.UNKNOWN);
            refused("at(" + wild + ", 4)", net -> net.at(wild, 4), FewLines.UNKNOWN);
            refused("load(" + wild + ", 0)", net -> net.load(wild, 0), FewLines.UNKNOWN);
        }
        refused("drop behind the last", net -> net.drop(linesOf(net)), FewLines.UNKNOWN);
        refused("keep behind the last", net -> net.keep(linesOf(net), 1), FewLines.UNKNOWN);
        refused("at behind the last", net -> net.at(linesOf(net), 0), FewLines.UNKNOWN);
        refused("load behind the last", net -> net.load(linesOf(net), 0), FewLines.UNKNOWN);
    }

    private static void anotherNumber() {
        CHECKS.sentence("Refused, and nothing changes: OUTSIDE (another number is not as told)");
        for (int wild : new int[] {-1, 61, Checks.MIN, Checks.MAX}) {
            refused("nodes(" + wild + ")", net -> net.nodes(wild), FewLines.OUTSIDE);
            refused("line of " + wild, net -> net.line(0, 1, wild), FewLines.OUTSIDE);
            refused("cut by way " + wild, net -> net.cut(1, wild), FewLines.OUTSIDE);
            refused("worst(" + wild + ")", net -> net.worst(wild), FewLines.OUTSIDE);
            refused("promise(" + wild + ", 20)", net -> net.promise(wild, 20), FewLines.OUTSIDE);
            refused("promise(1, " + wild + ")", net -> net.promise(1, wild), FewLines.OUTSIDE);
            refused("peel(" + wild + ")", net -> net.peel(wild), FewLines.OUTSIDE);
            refused("greedy(" + wild + ")", net -> net.greedy(wild), FewLines.OUTSIDE);
            refused("fewest(" + wild + ", 0)", net -> net.fewest(wild, 0), FewLines.OUTSIDE);
            refused("fewest(1, " + wild + ")", net -> net.fewest(1, wild), FewLines.OUTSIDE);
            refused("thin(" + wild + ")", net -> net.thin(wild), FewLines.OUTSIDE);
            refused("far by way " + wild, net -> net.far(0, 1, wild), FewLines.OUTSIDE);
            refused("stretch(" + wild + ")", net -> net.stretch(wild), FewLines.OUTSIDE);
            refused("trees(" + wild + ")", net -> net.trees(wild), FewLines.OUTSIDE);
            refused("resistance by way " + wild, net -> net.resistance(0, 1, wild, 0), FewLines.OUTSIDE);
            refused("resistance's part " + wild, net -> net.resistance(0, 1, 0, wild), FewLines.OUTSIDE);
            refused("count(" + wild + ")", net -> net.count(wild), FewLines.OUTSIDE);
        }
        justBeside();
        for (int side : new int[] {0, 2, -1, 128, 129, Checks.MIN + 1, Checks.MAX}) {
            refused("cut by " + side, net -> net.cut(side, 0), FewLines.OUTSIDE);
        }
        refused("cut by all", net -> net.cut((1 << nodesOf(net)) - 1, 0), FewLines.OUTSIDE);
        refused("cut by a node too many", net -> net.cut((1 << nodesOf(net)) + 1, 1), FewLines.OUTSIDE);
        refused("line of a node and itself", net -> net.line(1, 1, 1), FewLines.OUTSIDE);
        refused("resistance of a node and itself", net -> net.resistance(1, 1, 0, 0), FewLines.OUTSIDE);
    }

    private static void justBeside() {
        refused("nodes(1)", net -> net.nodes(1), FewLines.OUTSIDE);
        refused("nodes(8)", net -> net.nodes(8), FewLines.OUTSIDE);
        refused("line of 0", net -> net.line(0, 1, 0), FewLines.OUTSIDE);
        refused("line of 10", net -> net.line(0, 1, 10), FewLines.OUTSIDE);
        refused("cut by way 2", net -> net.cut(1, 2), FewLines.OUTSIDE);
        refused("worst(2)", net -> net.worst(2), FewLines.OUTSIDE);
        refused("promise(0, 20)", net -> net.promise(0, 20), FewLines.OUTSIDE);
        refused("promise(1, 21)", net -> net.promise(1, 21), FewLines.OUTSIDE);
        refused("promise(20, 19)", net -> net.promise(20, 19), FewLines.OUTSIDE);
        refused("peel(13)", net -> net.peel(13), FewLines.OUTSIDE);
        refused("greedy(0)", net -> net.greedy(0), FewLines.OUTSIDE);
        refused("greedy(10)", net -> net.greedy(10), FewLines.OUTSIDE);
        refused("fewest(0, 0)", net -> net.fewest(0, 0), FewLines.OUTSIDE);
        refused("fewest(10, 1)", net -> net.fewest(10, 1), FewLines.OUTSIDE);
        refused("fewest(9, 2)", net -> net.fewest(9, 2), FewLines.OUTSIDE);
        refused("thin(0)", net -> net.thin(0), FewLines.OUTSIDE);
        refused("thin(10)", net -> net.thin(10), FewLines.OUTSIDE);
        refused("far by way 2", net -> net.far(0, 1, 2), FewLines.OUTSIDE);
        refused("stretch(2)", net -> net.stretch(2), FewLines.OUTSIDE);
        refused("trees(2)", net -> net.trees(2), FewLines.OUTSIDE);
        refused("resistance by way 2", net -> net.resistance(0, 1, 2, 0), FewLines.OUTSIDE);
        refused("resistance's part 2", net -> net.resistance(0, 1, 1, 2), FewLines.OUTSIDE);
        refused("count(5)", net -> net.count(5), FewLines.OUTSIDE);
    }

    private static void anotherNumberOfLines() {
        CHECKS.sentence("Refused, and nothing changes: OUTSIDE (another number, of a LINE that there is)");
        NETS.forEach((kind, made) -> {
            int want = linesOf(made.get()) > 0 ? FewLines.OUTSIDE : FewLines.UNKNOWN;
            for (int wild : new int[] {-1, 61, Checks.MIN, Checks.MAX}) {
                refused("keep(0, " + wild + ")", net -> net.keep(0, wild), want, kind, made);
                refused("at(0, " + wild + ")", net -> net.at(0, wild), want, kind, made);
                refused("load(0, " + wild + ")", net -> net.load(0, wild), want, kind, made);
            }
            refused("at(0, 5)", net -> net.at(0, 5), want, kind, made);
            refused("load(0, 2)", net -> net.load(0, 2), want, kind, made);
        });
    }

    private static void full() {
        CHECKS.sentence("Refused, and nothing changes: .. FULL");
        String kind = "a full net";
        for (int weight : new int[] {1, 9}) {
            refused("line(0, 6, " + weight + ")", net -> net.line(0, 6, weight), FewLines.FULL, kind, NETS.get(kind));
            refused("line(1, 0, " + weight + ")", net -> net.line(1, 0, weight), FewLines.FULL, kind, NETS.get(kind));
        }
    }

    private static void notNow() {
        CHECKS.sentence("NOT (not now: as told): no promise tells a case of it, so no call answers it");
        NETS.forEach((kind, made) -> {
            String answers = " " + answers(made.get()) + " ";
            CHECKS.holds("no NOT and no FULL of " + kind, !answers.contains(" -4 ") && !answers.contains(" -5 "));
            for (int number = -1; number <= 13; number++) {
                FewLines net = made.get();
                int[] changed = {net.keep(number, number), net.peel(number), net.greedy(number), net.thin(number),
                    net.drop(number), net.line(0, 1, number), net.nodes(number)};
                for (int answer : changed) {
                    CHECKS.holds("no NOT by " + number + " of " + kind, answer != FewLines.NOT);
                }
            }
        });
    }

    private static void unknownIsFirst() {
        CHECKS.sentence("UNKNOWN .., OUTSIDE ..: the first of these that fits");
        refused("line from n of 0", net -> net.line(nodesOf(net), 0, 0), FewLines.UNKNOWN);
        refused("line to n of 10", net -> net.line(0, nodesOf(net), 10), FewLines.UNKNOWN);
        refused("line from and to n", net -> net.line(nodesOf(net), nodesOf(net), 1), FewLines.UNKNOWN);
        refused("line from and to -1", net -> net.line(-1, -1, -1), FewLines.UNKNOWN);
        refused("keep(m, 61)", net -> net.keep(linesOf(net), 61), FewLines.UNKNOWN);
        refused("keep(-1, -1)", net -> net.keep(-1, -1), FewLines.UNKNOWN);
        refused("at(m, 5)", net -> net.at(linesOf(net), 5), FewLines.UNKNOWN);
        refused("at(-1, -1)", net -> net.at(-1, -1), FewLines.UNKNOWN);
        refused("far from n by way 2", net -> net.far(nodesOf(net), 0, 2), FewLines.UNKNOWN);
        refused("far to n by way -1", net -> net.far(0, nodesOf(net), -1), FewLines.UNKNOWN);
        refused("resistance from n and to n", net -> net.resistance(nodesOf(net), nodesOf(net), 0, 0), FewLines.UNKNOWN);
        refused("resistance from n by way 2", net -> net.resistance(nodesOf(net), 0, 2, 0), FewLines.UNKNOWN);
        refused("resistance to n, part 2", net -> net.resistance(0, nodesOf(net), 0, 2), FewLines.UNKNOWN);
        refused("load(m, 2)", net -> net.load(linesOf(net), 2), FewLines.UNKNOWN);
        refused("load(-1, -1)", net -> net.load(-1, -1), FewLines.UNKNOWN);
    }

    private static void outsideBeforeFull() {
        CHECKS.sentence("UNKNOWN .., OUTSIDE .., FULL: the first of these that fits");
        String kind = "a full net";
        Supplier<FewLines> made = NETS.get(kind);
        refused("line(7, 0, 1)", net -> net.line(7, 0, 1), FewLines.UNKNOWN, kind, made);
        refused("line(0, 7, 10)", net -> net.line(0, 7, 10), FewLines.UNKNOWN, kind, made);
        refused("line(0, 0, 1)", net -> net.line(0, 0, 1), FewLines.OUTSIDE, kind, made);
        refused("line(0, 1, 0)", net -> net.line(0, 1, 0), FewLines.OUTSIDE, kind, made);
        refused("line(0, 1, 10)", net -> net.line(0, 1, 10), FewLines.OUTSIDE, kind, made);
    }

    private static void refusedBeforeNone() {
        CHECKS.sentence("Refused: .. OUTSIDE, where there would be NONE");
        FewLines empty = new FewLines();
        FewLines parts = Checks.net(3, 0, 1, 1);
        for (int wild : new int[] {-1, 2}) {
            CHECKS.due("worst(" + wild + ") without lines", empty.worst(wild), FewLines.OUTSIDE);
            CHECKS.due("stretch(" + wild + ") without lines", empty.stretch(wild), FewLines.OUTSIDE);
            CHECKS.due("far(0, 1, " + wild + ") without lines", empty.far(0, 1, wild), FewLines.OUTSIDE);
            CHECKS.due("far(1, 1, " + wild + ")", empty.far(1, 1, wild), FewLines.OUTSIDE);
            CHECKS.due("resistance(0, 1, 0, " + wild + ") without trees", empty.resistance(0, 1, 0, wild), FewLines.OUTSIDE);
            CHECKS.due("resistance(0, 1, " + wild + ", 0) without trees", empty.resistance(0, 1, wild, 0), FewLines.OUTSIDE);
            CHECKS.due("load(0, " + wild + ") without trees", parts.load(0, wild), FewLines.OUTSIDE);
        }
        CHECKS.due("resistance(1, 1, 0, 0) without trees", empty.resistance(1, 1, 0, 0), FewLines.OUTSIDE);
        CHECKS.due("resistance(4, 0, 0, 0) without trees", empty.resistance(4, 0, 0, 0), FewLines.UNKNOWN);
        CHECKS.due("load(1, 0) without trees", parts.load(1, 0), FewLines.UNKNOWN);
    }

    private static void askingChangesNothing() {
        CHECKS.sentence("Nothing is promised beyond the answers and state changes described: to ask changes nothing");
        NETS.forEach((kind, made) -> {
            FewLines net = made.get();
            answers(net);
            CHECKS.state("asking of " + kind, net, Checks.state(made.get()));
        });
    }
}
