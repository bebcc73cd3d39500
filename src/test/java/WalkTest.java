/** Promises 10 to 15, addWalker, position, step, absorb, arrivals and departures: ordinary walks. */
public final class WalkTest {
    private static final Check CHECK = new Check();

    public static void main(String[] args) {
        stepsOnPath();
        walkersShareRotors();
        counters();
        absorbOnPath(false);
        absorbOnPath(true);
        CHECK.finish();
    }

    private static void stepsOnPath() {
        RotorRouter x = Routers.loaded(Routers.PATH);
        x.addWalker(0);
        int[] nodes = {1, 0, 1, 2, 1, 0, 1, 2};
        int[] rotorsOfOne = {0, 1, 1, 0, 0, 1, 1, 0};
        for (int i = 0; i < nodes.length; i++) {
            CHECK.due("step(0, 1), the " + i + "th", x.step(0, 1), nodes[i]);
            CHECK.due("position(0)", x.position(0), nodes[i]);
            CHECK.due("rotor(1)", x.rotor(1), rotorsOfOne[i]);
            CHECK.due("rotor(0)", x.rotor(0), 0);
        }
        CHECK.due("step(0, 4)", x.step(0, 4), 2);
        CHECK.due("step(0, 5)", x.step(0, 5), 1);
        CHECK.due("step(0, 1000)", x.step(0, 1000), 1);
    }

    private static void walkersShareRotors() {
        RotorRouter x = Routers.loaded(Routers.TRIANGLE);
        x.addWalker(0);
        x.addWalker(0);
        CHECK.due("step(0, 1)", x.step(0, 1), 1);
        CHECK.due("step(1, 1)", x.step(1, 1), 2);
        CHECK.due("position(0)", x.position(0), 1);
        CHECK.due("rotor(0)", x.rotor(0), 0);
        CHECK.due("step(1, 1)", x.step(1, 1), 1);
        CHECK.due("step(1, 1)", x.step(1, 1), 0);
        CHECK.due("step(0, 1)", x.step(0, 1), 2);
    }

    private static void counters() {
        RotorRouter x = Routers.loaded(Routers.PATH);
        x.addWalker(0);
        x.addWalker(2);
        x.step(0, 4);
        x.step(1, 2);
        CHECK.due("arrivals(0)", x.arrivals(0), 2);
        CHECK.due("arrivals(1)", x.arrivals(1), 3);
        CHECK.due("arrivals(2)", x.arrivals(2), 1);
        CHECK.due("departures(0, 0)", x.departures(0, 0), 2);
        CHECK.due("departures(1, 0)", x.departures(1, 0), 2);
        CHECK.due("departures(1, 1)", x.departures(1, 1), 1);
        CHECK.due("departures(2, 0)", x.departures(2, 0), 1);
        x.setRotor(1, 1);
        CHECK.due("departures(1, 1) after setRotor", x.departures(1, 1), 1);
        x.addWalker(1);
        CHECK.due("arrivals(1) after addWalker", x.arrivals(1), 3);
        x.step(2, 1);
        CHECK.due("departures(1, 1) after a step", x.departures(1, 1), 2);
        for (int i = 0; i < 20; i++) {
            x.step(0, 1000);
        }
        CHECK.due("arrivals of all", x.arrivals(0) + x.arrivals(1) + x.arrivals(2), 20007);
        CHECK.due("arrivals(1) of 20000 steps", x.arrivals(1), 10003);
    }

    /** Both orders end alike: with a sink, the order of the steps changes no counter. */
    private static void absorbOnPath(boolean roundRobin) {
        RotorRouter x = Routers.loaded(Routers.PATH);
        x.addWalker(0);
        x.addWalker(1);
        CHECK.due("absorb(2)", x.absorb(2, roundRobin), 7);
        CHECK.due("position(0)", x.position(0), 2);
        CHECK.due("position(1)", x.position(1), 2);
        CHECK.due("rotor(1)", x.rotor(1), 0);
        CHECK.due("arrivals(0)", x.arrivals(0), 2);
        CHECK.due("arrivals(1)", x.arrivals(1), 3);
        CHECK.due("arrivals(2)", x.arrivals(2), 2);
        CHECK.due("departures(0, 0)", x.departures(0, 0), 3);
        CHECK.due("departures(1, 0)", x.departures(1, 0), 2);
        CHECK.due("departures(1, 1)", x.departures(1, 1), 2);
        CHECK.due("departures(2, 0)", x.departures(2, 0), 0);
        CHECK.due("absorb(2) again", x.absorb(2, roundRobin), 0);
        CHECK.due("absorb(0)", x.absorb(0, roundRobin), 6);
    }
}
