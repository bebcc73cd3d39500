/** Promises 10 to 15: addWalker, position, step, absorb, arrivals, departures; and 23: walkerCount. */
public final class WalkTest {
    private static final Check CHECK = new Check();
    private static final String PATH = "3:01,12";
    private static final String TRIANGLE = "3:01,12,20";

    public static void main(String[] args) {
        walkersThatAreAdded();
        walkersThatDoNotExist();
        stepsOnPath();
        stepsOutOfRange();
        walkersShareRotors();
        counters();
        countersThatDoNotExist();
        absorbWithoutWalkers();
        absorbOnPath(false);
        absorbOnPath(true);
        absorbSkipsWalkersAtSink(false);
        absorbSkipsWalkersAtSink(true);
        absorbAsksForSink();
        CHECK.finish();
    }

    private static void walkersThatAreAdded() {
        RotorRouter x = Routers.loaded(PATH);
        CHECK.due("walkerCount()", x.walkerCount(), 0);
        int[] nodes = {2, 0, 2, 1};
        for (int walker = 0; walker < 4; walker++) {
            CHECK.due("addWalker(3)", x.addWalker(3), RotorRouter.NO_SUCH_NODE);
            CHECK.due("addWalker(-1)", x.addWalker(-1), RotorRouter.NO_SUCH_NODE);
            CHECK.due("addWalker", x.addWalker(nodes[walker]), walker);
            CHECK.due("walkerCount()", x.walkerCount(), walker + 1);
        }
        for (int walker = 0; walker < 4; walker++) {
            CHECK.due("position(" + walker + ")", x.position(walker), nodes[walker]);
        }
        CHECK.due("addWalker(0), the fifth", x.addWalker(0), RotorRouter.TOO_MANY_WALKERS);
        CHECK.due("addWalker(3), the fifth", x.addWalker(3), RotorRouter.NO_SUCH_NODE);
        CHECK.due("walkerCount()", x.walkerCount(), 4);
        CHECK.due("arrivals(2)", x.arrivals(2), 0);
    }

    private static void walkersThatDoNotExist() {
        RotorRouter x = Routers.loaded(PATH);
        x.addWalker(0);
        x.addWalker(0);
        int[] walkers = {-1, 2, 3, 4, Integer.MIN_VALUE, Integer.MAX_VALUE};
        for (int walker : walkers) {
            CHECK.due("position(" + walker + ")", x.position(walker), RotorRouter.NO_SUCH_WALKER);
            CHECK.due("step(" + walker + ", 1)", x.step(walker, 1), RotorRouter.NO_SUCH_WALKER);
            CHECK.due("step(" + walker + ", 0)", x.step(walker, 0), RotorRouter.NO_SUCH_WALKER);
            CHECK.due("stepsToCycle(" + walker + ")", x.stepsToCycle(walker), RotorRouter.NO_SUCH_WALKER);
            CHECK.due("coverTime(" + walker + ")", x.coverTime(walker), RotorRouter.NO_SUCH_WALKER);
        }
    }

    private static void stepsOnPath() {
        RotorRouter x = Routers.loaded(PATH);
        x.addWalker(0);
        int[] nodes = {1, 0, 1, 2, 1, 0, 1, 2};
        int[] rotorsOfOne = {0, 1, 1, 0, 0, 1, 1, 0};
        for (int i = 0; i < nodes.length; i++) {
            CHECK.due("step(0, 1), the " + i + "th", x.step(0, 1), nodes[i]);
            CHECK.due("position(0)", x.position(0), nodes[i]);
            CHECK.due("rotor(1)", x.rotor(1), rotorsOfOne[i]);
            CHECK.due("rotor(0)", x.rotor(0), 0);
        }
        CHECK.due("step(0, 4)", x.step(0, 4), 2);
        CHECK.due("step(0, 5)", x.step(0, 5), 1);
        CHECK.due("step(0, 1000)", x.step(0, 1000), 1);
    }

    private static void stepsOutOfRange() {
        RotorRouter x = Routers.loaded(PATH);
        x.addWalker(0);
        long digest = x.digest();
        int[] steps = {0, -1, 1001, Integer.MIN_VALUE, Integer.MAX_VALUE};
        for (int number : steps) {
            CHECK.due("step(0, " + number + ")", x.step(0, number), RotorRouter.OUT_OF_RANGE);
        }
        CHECK.due("digest() after errors", x.digest(), digest);
    }

    private static void walkersShareRotors() {
        RotorRouter x = Routers.loaded(TRIANGLE);
        x.addWalker(0);
        x.addWalker(0);
        CHECK.due("step(0, 1)", x.step(0, 1), 1);
        CHECK.due("step(1, 1)", x.step(1, 1), 2);
        CHECK.due("position(0)", x.position(0), 1);
        CHECK.due("rotor(0)", x.rotor(0), 0);
        CHECK.due("step(1, 1)", x.step(1, 1), 1);
        CHECK.due("step(1, 1)", x.step(1, 1), 0);
        CHECK.due("step(0, 1)", x.step(0, 1), 2);
    }

    private static void counters() {
        RotorRouter x = Routers.loaded(PATH);
        x.addWalker(0);
        x.addWalker(2);
        x.step(0, 4);
        x.step(1, 2);
        CHECK.due("arrivals(0)", x.arrivals(0), 2);
        CHECK.due("arrivals(1)", x.arrivals(1), 3);
        CHECK.due("arrivals(2)", x.arrivals(2), 1);
        CHECK.due("departures(0, 0)", x.departures(0, 0), 2);
        CHECK.due("departures(1, 0)", x.departures(1, 0), 2);
        CHECK.due("departures(1, 1)", x.departures(1, 1), 1);
        CHECK.due("departures(2, 0)", x.departures(2, 0), 1);
        x.setRotor(1, 1);
        CHECK.due("departures(1, 1) after setRotor", x.departures(1, 1), 1);
        x.addWalker(1);
        CHECK.due("arrivals(1) after addWalker", x.arrivals(1), 3);
        x.step(2, 1);
        CHECK.due("departures(1, 1) after a step", x.departures(1, 1), 2);
        for (int i = 0; i < 20; i++) {
            x.step(0, 1000);
        }
        CHECK.due("arrivals of all", x.arrivals(0) + x.arrivals(1) + x.arrivals(2), 20007);
        CHECK.due("arrivals(1) of 20000 steps", x.arrivals(1), 10003);
    }

    private static void countersThatDoNotExist() {
        RotorRouter x = Routers.loaded(PATH);
        int[] nodes = {-1, 3, 8, Integer.MIN_VALUE, Integer.MAX_VALUE};
        for (int node : nodes) {
            CHECK.due("arrivals(" + node + ")", x.arrivals(node), RotorRouter.NO_SUCH_NODE);
            CHECK.due("departures(" + node + ", 0)", x.departures(node, 0), RotorRouter.NO_SUCH_NODE);
            CHECK.due("departures(" + node + ", -1)", x.departures(node, -1), RotorRouter.NO_SUCH_NODE);
        }
        int[] indexes = {-1, 2, Integer.MIN_VALUE, Integer.MAX_VALUE};
        for (int index : indexes) {
            CHECK.due("departures(1, " + index + ")", x.departures(1, index), RotorRouter.OUT_OF_RANGE);
        }
        CHECK.due("departures(0, 1)", x.departures(0, 1), RotorRouter.OUT_OF_RANGE);
    }

    private static void absorbWithoutWalkers() {
        RotorRouter x = Routers.loaded(PATH);
        CHECK.due("absorb(1, false) of none", x.absorb(1, false), 0);
        CHECK.due("absorb(1, true) of none", x.absorb(1, true), 0);
    }

    /** Both orders end alike: with a sink, the order of the steps changes no counter. */
    private static void absorbOnPath(boolean roundRobin) {
        RotorRouter x = Routers.loaded(PATH);
        x.addWalker(0);
        x.addWalker(1);
        CHECK.due("absorb(2)", x.absorb(2, roundRobin), 7);
        CHECK.due("position(0)", x.position(0), 2);
        CHECK.due("position(1)", x.position(1), 2);
        CHECK.due("rotor(1)", x.rotor(1), 0);
        CHECK.due("arrivals(0)", x.arrivals(0), 2);
        CHECK.due("arrivals(1)", x.arrivals(1), 3);
        CHECK.due("arrivals(2)", x.arrivals(2), 2);
        CHECK.due("departures(0, 0)", x.departures(0, 0), 3);
        CHECK.due("departures(1, 0)", x.departures(1, 0), 2);
        CHECK.due("departures(1, 1)", x.departures(1, 1), 2);
        CHECK.due("departures(2, 0)", x.departures(2, 0), 0);
        CHECK.due("absorb(2) again", x.absorb(2, roundRobin), 0);
        CHECK.due("absorb(0)", x.absorb(0, roundRobin), 6);
    }

    private static void absorbSkipsWalkersAtSink(boolean roundRobin) {
        RotorRouter x = Routers.loaded(TRIANGLE);
        x.addWalker(1);
        x.addWalker(0);
        x.addWalker(1);
        x.addWalker(0);
        // Walker 1 goes 0, 1; walker 3 goes 0, 2, 1.
        CHECK.due("absorb(1)", x.absorb(1, roundRobin), 3);
        CHECK.due("rotor(1)", x.rotor(1), 0);
        CHECK.due("rotor(0)", x.rotor(0), 0);
        CHECK.due("rotor(2)", x.rotor(2), 1);
        CHECK.due("arrivals(1)", x.arrivals(1), 2);
        for (int walker = 0; walker < 4; walker++) {
            CHECK.due("position", x.position(walker), 1);
        }
    }

    private static void absorbAsksForSink() {
        RotorRouter x = Routers.loaded(TRIANGLE);
        x.addWalker(0);
        long digest = x.digest();
        int[] sinks = {-1, 3, Integer.MIN_VALUE, Integer.MAX_VALUE};
        for (int sink : sinks) {
            CHECK.due("absorb(" + sink + ", false)", x.absorb(sink, false), RotorRouter.NO_SUCH_NODE);
            CHECK.due("absorb(" + sink + ", true)", x.absorb(sink, true), RotorRouter.NO_SUCH_NODE);
        }
        CHECK.due("digest() after errors", x.digest(), digest);
    }
}
