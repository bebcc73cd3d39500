/** Promises 21 and 22: snapshot, restore; and 25: digest. */
public final class SnapshotTest {
    private static final Check CHECK = new Check();
    private static final String PATH = "3:01,12";

    public static void main(String[] args) {
        restoreBringsAllBack();
        restoreRemovesWalkers();
        snapshotIsReplaced();
        snapshotKeepsInputAndIsOfOneGraph();
        digestWithoutGraph();
        digestOfGraph();
        digestOfWalkers();
        digestOfMostAssignments();
        digestOfTooManyAssignments();
        CHECK.finish();
    }

    private static void restoreBringsAllBack() {
        RotorRouter x = Routers.loaded("4:01,12,23,30,02");
        CHECK.due("restore() before snapshot()", x.restore(), RotorRouter.NO_SNAPSHOT);
        x.addWalker(0);
        x.addWalker(3);
        x.step(0, 5);
        x.setRotor(3, 1);
        long digest = x.digest();
        CHECK.due("snapshot()", x.snapshot(), 2);
        CHECK.due("digest() after snapshot()", x.digest(), digest);
        for (int round = 0; round < 2; round++) {
            x.step(0, 7);
            x.step(1, 2);
            x.setRotor(0, 1);
            x.absorb(2, true);
            CHECK.holds("digest() differs", x.digest() != digest);
            CHECK.due("restore()", x.restore(), 2);
            CHECK.due("digest() after restore()", x.digest(), digest);
        }
        CHECK.due("restore() at once again", x.restore(), 2);
        CHECK.due("digest() after it", x.digest(), digest);
    }

    private static void restoreRemovesWalkers() {
        RotorRouter x = Routers.loaded(PATH);
        CHECK.due("snapshot() without walkers", x.snapshot(), 0);
        for (int walker = 0; walker < 4; walker++) {
            x.addWalker(1);
        }
        CHECK.due("restore()", x.restore(), 0);
        CHECK.due("walkerCount()", x.walkerCount(), 0);
        CHECK.due("position(0)", x.position(0), RotorRouter.NO_SUCH_WALKER);
        CHECK.due("addWalker(2)", x.addWalker(2), 0);
        CHECK.due("position(0)", x.position(0), 2);
    }

    private static void snapshotIsReplaced() {
        RotorRouter x = Routers.loaded(PATH);
        x.addWalker(0);
        x.snapshot();
        x.step(0, 1);
        x.addWalker(2);
        CHECK.due("snapshot() again", x.snapshot(), 2);
        x.step(0, 1);
        CHECK.due("restore()", x.restore(), 2);
        CHECK.due("position(0)", x.position(0), 1);
        CHECK.due("position(1)", x.position(1), 2);
        CHECK.due("rotor(1)", x.rotor(1), 0);
        CHECK.due("arrivals(0)", x.arrivals(0), 0);
        CHECK.due("arrivals(1)", x.arrivals(1), 1);
        CHECK.due("departures(1, 0)", x.departures(1, 0), 0);
    }

    private static void snapshotKeepsInputAndIsOfOneGraph() {
        RotorRouter x = Routers.loaded(PATH);
        Routers.type(x, "2:");
        x.snapshot();
        Routers.type(x, "01");
        x.restore();
        CHECK.due("firstError() after restore()", x.firstError(), 4);
        CHECK.due("load()", x.load(), 2);
        CHECK.due("restore() after load()", x.restore(), RotorRouter.NO_SNAPSHOT);
        CHECK.due("snapshot() after load()", x.snapshot(), 0);
        CHECK.due("restore() of the new graph", x.restore(), 0);
    }

    private static void digestWithoutGraph() {
        RotorRouter x = new RotorRouter();
        CHECK.due("digest() of a new object", x.digest(), 1753L * 31 * 31 * 31 * 31);
        CHECK.due("digest() of a new object", x.digest(), Check.hash(0, 0, 0, 0));
        x.append('A');
        x.append('~');
        CHECK.due("digest() with input", x.digest(), Check.hash(0, 0, 0, 2, 65, 126));
        x.clearInput();
        CHECK.due("digest() without input", x.digest(), Check.hash(0, 0, 0, 0));
    }

    private static void digestOfGraph() {
        RotorRouter x = Routers.loaded("2:01");
        long four = Double.doubleToLongBits(4.0);
        CHECK.due("digest() of 2:01", x.digest(), Check.hash(2, 1, 1, 0, 0, 1, 0, 1, 0, 0, 0, 0, 0, 1, four, 0));
        x.append('9');
        CHECK.due("digest() of it and 9", x.digest(), Check.hash(2, 1, 1, 0, 0, 1, 0, 1, 0, 0, 0, 0, 0, 1, four, 1, 57));
    }

    private static void digestOfWalkers() {
        RotorRouter x = Routers.loaded(PATH);
        x.addWalker(0);
        x.step(0, 3);
        x.addWalker(0);
        // Chances at node 1 are 1 after each odd step, of which there are four.
        long four = Double.doubleToLongBits(4.0);
        CHECK.due("digest() of two walkers", x.digest(), Check.hash(
            3, 2,
            1, 0, 1, 1, 2,
            2, 1, 2, 0, 1, 2, 0,
            1, 0, 0, 1, 0,
            2, 1, 0, 3, 0, 0, 2,
            2, four, 0));
    }

    private static void digestOfMostAssignments() {
        String assignments2000 = "8:01,12,20,03,04,05,13,16,17,24,25,26";
        Model model = new Model();
        model.typeAndLoad(assignments2000);
        CHECK.due("digest() of 2000 assignments", Routers.loaded(assignments2000).digest(), model.digest());
    }

    private static void digestOfTooManyAssignments() {
        String cube = "8:01,12,23,34,45,56,67,70,04,15,26,37";
        RotorRouter x = Routers.loaded(cube);
        long[] values = new long[2 + 8 * 9 + 3];
        values[0] = 8;
        values[1] = 12;
        int next = 2;
        for (int node = 0; node < 8; node++) {
            values[next] = 3;
            for (int index = 0; index < 3; index++) {
                values[next + 3 + 2 * index] = x.neighbor(node, index);
            }
            next += 9;
        }
        values[next + 1] = x.expectedArrivals(0, 7, 1);
        CHECK.due("digest() of 6561 assignments", x.digest(), Check.hash(values));
    }
}
