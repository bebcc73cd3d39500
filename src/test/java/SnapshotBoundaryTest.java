import java.util.ArrayList;
import java.util.List;

/** The boundary cases of promises 21, 22 and 25, a test for each sentence. */
public final class SnapshotBoundaryTest {
    private static final Check CHECK = new Check();

    public static void main(String[] args) {
        CHECK.sentence("Promise 21", "Keeps a snapshot of all rotors, walkers, arrivals and departures.",
            SnapshotBoundaryTest::snapshotKeepsAll);
        CHECK.sentence("Promise 21", "It replaces the previous snapshot.", SnapshotBoundaryTest::snapshotIsReplaced);
        CHECK.sentence("Promise 21", "Returns the number of walkers", SnapshotBoundaryTest::walkersOfSnapshot);
        CHECK.sentence("Promise 21", "NO_SNAPSHOT if no graph is loaded", SnapshotBoundaryTest::snapshotWithoutGraph);
        CHECK.sentence("Promise 21", "Keeps a snapshot of all rotors, walkers, arrivals and departures.",
            SnapshotBoundaryTest::inputIsNotKept);
        CHECK.sentence("Promise 22", "Restores all rotors, walkers, arrivals and departures from the snapshot.",
            SnapshotBoundaryTest::restoreBringsAllBack);
        CHECK.sentence("Promise 22", "Walkers that were added after the snapshot are removed.",
            SnapshotBoundaryTest::laterWalkersAreRemoved);
        CHECK.sentence("Promise 22", "The snapshot is kept.", SnapshotBoundaryTest::snapshotStays);
        CHECK.sentence("Promise 22", "Returns the number of walkers", SnapshotBoundaryTest::walkersOfRestore);
        CHECK.sentence("Promise 22", "NO_SNAPSHOT if there is no snapshot of the current graph",
            SnapshotBoundaryTest::noSnapshotOfGraph);
        CHECK.sentence("Promise 25",
            "The hash starts as 1753; each value x replaces the hash by 31 * hash + x, in long arithmetic"
                + " with overflow.",
            SnapshotBoundaryTest::hashOverflows);
        CHECK.sentence("Promise 25",
            "for each node its degree, its rotor, its arrivals, then for each of its neighbors the neighbor"
                + " and the departures to it",
            SnapshotBoundaryTest::valuesInOrder);
        CHECK.sentence("Promise 25",
            "the number of walkers; for each walker its node, its stepsToCycle and its coverTime",
            SnapshotBoundaryTest::walkersInDigest);
        CHECK.sentence("Promise 25",
            "if the graph has at most 2000 assignments of rotors, the leastCoverTime of node 0",
            SnapshotBoundaryTest::mostAssignmentsInDigest);
        CHECK.sentence("Promise 25", "if the graph has at most 2000 assignments of rotors",
            SnapshotBoundaryTest::tooManyAssignmentsInDigest);
        CHECK.sentence("Promise 25", "if a graph is loaded, expectedArrivals(0, 7, 1)",
            SnapshotBoundaryTest::expectationInDigest);
        CHECK.sentence("Promise 25", "the length of the input buffer and each of its character codes",
            SnapshotBoundaryTest::inputInDigest);
        CHECK.sentence("Promise 25",
            "With no graph loaded, the number of nodes, the number of links and the number of walkers are 0"
                + " (all three are hashed), and there is neither leastCoverTime nor expectedArrivals.",
            SnapshotBoundaryTest::digestWithoutGraph);
        CHECK.sentence("Promise 25", "Computes a hash of the whole state.", SnapshotBoundaryTest::digestChangesNothing);
        CHECK.finish();
    }

    private static void snapshotKeepsAll() {
        for (String graph : new String[] {"2:01", Routers.SQUARE, Routers.star(8), Routers.CUBE}) {
            String before = Routers.seen(Routers.busy(graph, 4, ""));
            RotorRouter x = Routers.busy(graph, 4, "");
            x.snapshot();
            CHECK.same("snapshot() changes nothing", Routers.seen(x), before);
            disturb(x);
            CHECK.holds("the state is another now", !before.endsWith(" " + x.digest()));
            x.restore();
            CHECK.same("what was kept", Routers.seen(x), before);
        }
    }

    private static void disturb(RotorRouter x) {
        for (int walker = 0; walker < 4; walker++) {
            x.step(walker, 101 + walker);
        }
        for (int node = 0; node < 8; node++) {
            x.setRotor(node, 0);
        }
        x.absorb(1, true);
    }

    private static void snapshotIsReplaced() {
        RotorRouter x = Routers.loaded(Routers.PATH);
        for (int walker = 0; walker < 4; walker++) {
            x.addWalker(walker % 3);
            x.snapshot();
        }
        x.step(0, 9);
        CHECK.due("snapshot() of four", x.snapshot(), 4);
        String kept = Routers.seen(x);
        x.step(1, 8);
        x.restore();
        CHECK.same("the last of several", Routers.seen(x), kept);
        RotorRouter fewer = Routers.loaded(Routers.PATH);
        fewer.snapshot();
        fewer.addWalker(0);
        fewer.snapshot();
        fewer.addWalker(0);
        fewer.restore();
        CHECK.due("snapshot() of one", fewer.snapshot(), 1);
        CHECK.due("restore()", fewer.restore(), 1);
    }

    private static void walkersOfSnapshot() {
        RotorRouter x = Routers.loaded(Routers.PATH);
        for (int walkers = 0; walkers <= 4; walkers++) {
            CHECK.due("snapshot() of " + walkers, x.snapshot(), walkers);
            x.addWalker(1);
        }
        CHECK.due("snapshot() after a refused fifth", x.snapshot(), 4);
    }

    private static void snapshotWithoutGraph() {
        RotorRouter x = new RotorRouter();
        CHECK.due("snapshot() of a new object", x.snapshot(), RotorRouter.NO_SNAPSHOT);
        CHECK.due("restore() of what was not kept", x.restore(), RotorRouter.NO_SNAPSHOT);
        Routers.type(x, "2:01");
        CHECK.due("snapshot() before load()", x.snapshot(), RotorRouter.NO_SNAPSHOT);
        Routers.type(x, ",");
        x.load();
        CHECK.due("snapshot() after a refused load()", x.snapshot(), RotorRouter.NO_SNAPSHOT);
        x.clearInput();
        Routers.type(x, "2:01");
        x.load();
        CHECK.due("restore() of a refused snapshot", x.restore(), RotorRouter.NO_SNAPSHOT);
        CHECK.due("snapshot() after load()", x.snapshot(), 0);
    }

    private static void restoreBringsAllBack() {
        RotorRouter x = Routers.loaded(Routers.star(8));
        x.addWalker(7);
        x.addWalker(6);
        x.step(0, 3);
        x.setRotor(7, 6);
        x.snapshot();
        x.step(0, 1000);
        x.step(1, 1000);
        x.setRotor(7, 3);
        x.restore();
        CHECK.due("rotor(7)", x.rotor(7), 6);
        CHECK.due("position(0)", x.position(0), 1);
        CHECK.due("position(1)", x.position(1), 6);
        for (int node = 0; node < 8; node++) {
            CHECK.due("arrivals(" + node + ")", x.arrivals(node), node < 2 || node == 7 ? 1 : 0);
        }
        for (int index = 0; index < 7; index++) {
            CHECK.due("departures(7, " + index + ")", x.departures(7, index), index < 2 ? 1 : 0);
            CHECK.due("departures(" + index + ", 0)", x.departures(index, 0), index < 1 ? 1 : 0);
        }
    }

    private static void laterWalkersAreRemoved() {
        for (int kept = 0; kept <= 4; kept++) {
            RotorRouter x = Routers.loaded(Routers.path(8));
            for (int walker = 0; walker < kept; walker++) {
                x.addWalker(walker);
            }
            x.snapshot();
            for (int walker = kept; walker < 4; walker++) {
                x.addWalker(7);
            }
            x.restore();
            CHECK.due("walkerCount() of " + kept, x.walkerCount(), kept);
            for (int walker = 0; walker < 4; walker++) {
                CHECK.due("position(" + walker + ")", x.position(walker),
                    walker < kept ? walker : RotorRouter.NO_SUCH_WALKER);
            }
            for (int walker = kept; walker < 4; walker++) {
                CHECK.due("addWalker(6)", x.addWalker(6), walker);
            }
            CHECK.due("addWalker(6), the fifth", x.addWalker(6), RotorRouter.TOO_MANY_WALKERS);
        }
    }

    private static void snapshotStays() {
        RotorRouter x = Routers.busy(Routers.SQUARE, 1, "");
        x.snapshot();
        String kept = Routers.seen(x);
        for (int round = 0; round < 4; round++) {
            x.step(0, 1000);
            x.setRotor(2, 2);
            x.addWalker(3);
            x.absorb(3, round % 2 == 0);
            CHECK.due("restore()", x.restore(), 1);
            CHECK.same("what was kept, round " + round, Routers.seen(x), kept);
        }
        CHECK.due("restore() at once again", x.restore(), 1);
    }

    private static void walkersOfRestore() {
        RotorRouter x = Routers.loaded(Routers.PATH);
        for (int walkers = 0; walkers <= 4; walkers++) {
            x.snapshot();
            CHECK.due("restore() of " + walkers, x.restore(), walkers);
            x.addWalker(1);
        }
        RotorRouter none = Routers.loaded(Routers.PATH);
        none.snapshot();
        none.addWalker(0);
        CHECK.due("restore() of none", none.restore(), 0);
    }

    private static void noSnapshotOfGraph() {
        RotorRouter x = new RotorRouter();
        CHECK.due("restore() of a new object", x.restore(), RotorRouter.NO_SNAPSHOT);
        Routers.type(x, Routers.PATH);
        x.load();
        CHECK.due("restore() of a new graph", x.restore(), RotorRouter.NO_SNAPSHOT);
        x.addWalker(0);
        CHECK.due("restore() of a walker", x.restore(), RotorRouter.NO_SNAPSHOT);
        x.snapshot();
        Routers.type(x, "4:01,23");
        x.load();
        CHECK.due("restore() after a refused load()", x.restore(), 1);
        x.clearInput();
        Routers.type(x, Routers.PATH);
        CHECK.due("restore() before load()", x.restore(), 1);
        x.load();
        CHECK.due("restore() after load() of the same text", x.restore(), RotorRouter.NO_SNAPSHOT);
        CHECK.due("walkerCount()", x.walkerCount(), 0);
    }

    private static void inputIsNotKept() {
        RotorRouter x = Routers.loaded(Routers.PATH);
        Routers.type(x, "3:");
        x.snapshot();
        Routers.type(x, "02");
        x.restore();
        CHECK.due("firstError()", x.firstError(), 4);
        Routers.type(x, ",12");
        x.restore();
        CHECK.due("load()", x.load(), 3);
        CHECK.due("neighbor(0, 0)", x.neighbor(0, 0), 2);
    }

    private static void hashOverflows() {
        RotorRouter x = new RotorRouter();
        CHECK.due("digest() of a new object", x.digest(), 1753L * 31 * 31 * 31 * 31);
        for (int length = 1; length <= 40; length++) {
            x.append('~');
        }
        // 1753 * 31^44 + 40 * 31^40 + 126 * (31^40 - 1) / 30, taken into the range of a long.
        CHECK.due("digest() of 40 characters", x.digest(), 6757520040437856385L);
    }

    private static void valuesInOrder() {
        RotorRouter x = Routers.loaded(Routers.PATH);
        x.addWalker(0);
        x.step(0, 3);
        x.addWalker(0);
        // The chance at node 1 is 1 after each odd step, of which there are four.
        CHECK.due("digest() of two walkers", x.digest(), Check.hash(
            3, 2,
            1, 0, 1, 1, 2,
            2, 1, 2, 0, 1, 2, 0,
            1, 0, 0, 1, 0,
            2, 1, 0, 3, 0, 0, 2,
            2, Double.doubleToLongBits(4.0), 0));
    }

    private static void walkersInDigest() {
        for (int walkers = 0; walkers <= 4; walkers++) {
            RotorRouter x = Routers.loaded(Routers.path(8));
            for (int walker = 0; walker < walkers; walker++) {
                x.addWalker(2 * walker);
            }
            CHECK.due("digest() of " + walkers, x.digest(), told(x, ""));
        }
    }

    private static void mostAssignmentsInDigest() {
        for (String text : new String[] {"2:01", Routers.SQUARE, Routers.ASSIGNMENTS_2000}) {
            RotorRouter x = Routers.loaded(text);
            CHECK.holds("leastCoverTime(0) of " + text, x.leastCoverTime(0) > 0);
            CHECK.due("digest() of " + text, x.digest(), told(x, ""));
        }
    }

    private static void tooManyAssignmentsInDigest() {
        for (String text : new String[] {Routers.ASSIGNMENTS_2016, Routers.CUBE}) {
            RotorRouter x = Routers.loaded(text);
            CHECK.due("leastCoverTime(0) of " + text, x.leastCoverTime(0), RotorRouter.TOO_LARGE);
            CHECK.due("digest() of " + text, x.digest(), told(x, ""));
        }
    }

    private static void expectationInDigest() {
        // From 0, node 1 is met after 1, 3, 5 and 7 steps with the chances 1/3, 1/3, 1/3 and 1/3.
        double third = 1.0 / 3;
        long expectation = Double.doubleToLongBits(third + third + third + third);
        RotorRouter star = Routers.loaded("4:01,02,03");
        CHECK.due("digest() of a star", star.digest(), Check.hash(
            4, 3, 3, 0, 0, 1, 0, 2, 0, 3, 0, 1, 0, 0, 0, 0, 1, 0, 0, 0, 0, 1, 0, 0, 0, 0, 0, 5, expectation, 0));
        RotorRouter farther = Routers.loaded("3:02,21");
        // From 0, node 1 is met after 2, 4 and 6 steps with the chance 1/2.
        CHECK.due("digest() of a path", farther.digest(), Check.hash(
            3, 2, 1, 0, 0, 2, 0, 1, 0, 0, 2, 0, 2, 0, 0, 0, 0, 1, 0, 0, 2, Double.doubleToLongBits(1.5), 0));
    }

    private static void inputInDigest() {
        String full = Routers.CUBE + ",02";
        for (int length = 0; length <= 40; length += 8) {
            String input = full.substring(0, length);
            RotorRouter x = Routers.busy("2:01", 2, input);
            CHECK.due("digest() with " + length, x.digest(), told(x, input));
        }
        RotorRouter x = Routers.loaded("2:01");
        long empty = x.digest();
        Routers.type(x, full);
        x.append('0');
        CHECK.due("digest() with 40", x.digest(), told(x, full));
        x.clearInput();
        CHECK.due("digest() with none", x.digest(), empty);
    }

    private static void digestWithoutGraph() {
        RotorRouter x = new RotorRouter();
        CHECK.due("digest()", x.digest(), Check.hash(0, 0, 0, 0));
        Routers.type(x, "3:01");
        CHECK.due("digest() with input", x.digest(), Check.hash(0, 0, 0, 4, '3', ':', '0', '1'));
        x.load();
        CHECK.due("digest() after a refused load()", x.digest(), Check.hash(0, 0, 0, 4, '3', ':', '0', '1'));
        x.clearInput();
        CHECK.due("digest() without input", x.digest(), Check.hash(0, 0, 0, 0));
    }

    private static void digestChangesNothing() {
        RotorRouter x = Routers.busy(Routers.SQUARE, 3, "2:01");
        RotorRouter twin = Routers.busy(Routers.SQUARE, 3, "2:01");
        long digest = x.digest();
        CHECK.due("digest() again", x.digest(), digest);
        CHECK.due("digest() of another object", twin.digest(), digest);
        CHECK.same("all else", Routers.seen(x), Routers.seen(twin));
        CHECK.due("restore()", x.restore(), 1);
        CHECK.holds("digest() of another state", x.digest() != digest);
    }

    /** The digest that is due by what the object tells otherwise. */
    private static long told(RotorRouter x, String input) {
        List<Long> values = new ArrayList<>();
        int nodes = 0;
        while (nodes < 8 && x.degree(nodes) > 0) {
            nodes++;
        }
        add(values, nodes, x.linkCount());
        for (int node = 0; node < nodes; node++) {
            add(values, x.degree(node), x.rotor(node), x.arrivals(node));
            for (int index = 0; index < x.degree(node); index++) {
                add(values, x.neighbor(node, index), x.departures(node, index));
            }
        }
        add(values, x.walkerCount());
        for (int walker = 0; walker < x.walkerCount(); walker++) {
            add(values, x.position(walker), x.stepsToCycle(walker), x.coverTime(walker));
        }
        if (x.leastCoverTime(0) != RotorRouter.TOO_LARGE) {
            add(values, x.leastCoverTime(0));
        }
        add(values, x.expectedArrivals(0, 7, 1), input.length());
        for (char code : input.toCharArray()) {
            add(values, code);
        }
        return Check.hash(values.stream().mapToLong(Long::longValue).toArray());
    }

    private static void add(List<Long> values, long... more) {
        for (long value : more) {
            values.add(value);
        }
    }
}
