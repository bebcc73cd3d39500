/** The boundary cases of promises 10 to 15 and 23, a test for each sentence. */
public final class WalkBoundaryTest {
    private static final Check CHECK = new Check();
    private static final boolean[] ORDERS = {false, true};

    public static void main(String[] args) {
        CHECK.sentence("Promise 10", "Returns the number of the walker", WalkBoundaryTest::numberOfWalker);
        CHECK.sentence("Promise 10", "NO_SUCH_NODE if the node does not exist (checked first)",
            WalkBoundaryTest::walkerAtNoNode);
        CHECK.sentence("Promise 10", "TOO_MANY_WALKERS if there are 4 walkers", WalkBoundaryTest::fifthWalker);
        CHECK.sentence("Promise 11", "Returns its node; NO_SUCH_WALKER if the walker does not exist.",
            WalkBoundaryTest::positionOfNoWalker);
        CHECK.sentence("Promise 12", "the number of steps, 1 to 1000", WalkBoundaryTest::fewestAndMostSteps);
        CHECK.sentence("Promise 12", "NO_SUCH_WALKER if the walker does not exist (checked first)",
            WalkBoundaryTest::stepOfNoWalker);
        CHECK.sentence("Promise 12", "OUT_OF_RANGE if steps is out of range", WalkBoundaryTest::stepsOutOfRange);
        CHECK.sentence("Promise 13", "Moves all walkers to a sink node.", WalkBoundaryTest::absorbMovesAllWalkers);
        CHECK.sentence("Promise 13", "These steps change rotors, arrivals and departures as those of step do.",
            WalkBoundaryTest::absorbStepsAsStepDoes);
        CHECK.sentence("Promise 13", "A walker that is at the sink makes no more steps in this call.",
            WalkBoundaryTest::walkersAtSinkStay);
        CHECK.sentence("Promise 13",
            "Without roundRobin, walker 0 makes steps until it is at the sink, then walker 1, and so on.",
            WalkBoundaryTest::oneWalkerAfterTheOther);
        CHECK.sentence("Promise 13",
            "With roundRobin, passes are repeated until all walkers are at the sink; in each pass each walker"
                + " that is not at the sink makes one step, in the order of their numbers.",
            WalkBoundaryTest::walkersInPasses);
        CHECK.sentence("Promise 13", "Returns the total number of steps made in this call",
            WalkBoundaryTest::stepsOfThisCall);
        CHECK.sentence("Promise 13", "0 if there are no walkers", WalkBoundaryTest::absorbWithoutWalkers);
        CHECK.sentence("Promise 13", "NO_SUCH_NODE if the sink does not exist", WalkBoundaryTest::sinkThatDoesNotExist);
        CHECK.sentence("Promise 14",
            "Returns how often a walker has arrived at a node by a step since the graph was loaded.",
            WalkBoundaryTest::arrivalsSinceLoad);
        CHECK.sentence("Promise 14", "Adding a walker is not an arrival.", WalkBoundaryTest::addingIsNoArrival);
        CHECK.sentence("Promise 14", "Returns the number of arrivals; NO_SUCH_NODE if the node does not exist.",
            WalkBoundaryTest::arrivalsAtNoNode);
        CHECK.sentence("Promise 15",
            "Returns how often a walker has left a node by a step to one of its neighbors since the graph was"
                + " loaded.",
            WalkBoundaryTest::departuresSinceLoad);
        CHECK.sentence("Promise 15",
            "Returns the number of departures; NO_SUCH_NODE if the node does not exist (checked first)",
            WalkBoundaryTest::departuresFromNoNode);
        CHECK.sentence("Promise 15", "OUT_OF_RANGE if index is negative or not less than the degree",
            WalkBoundaryTest::departuresOutOfRange);
        CHECK.sentence("Promise 23", "Returns the number of walkers.", WalkBoundaryTest::walkerCounts);
        CHECK.finish();
    }

    private static void numberOfWalker() {
        RotorRouter x = Routers.loaded(Routers.path(8));
        CHECK.due("addWalker(7)", x.addWalker(7), 0);
        CHECK.due("addWalker(0)", x.addWalker(0), 1);
        CHECK.due("addWalker(8)", x.addWalker(8), RotorRouter.NO_SUCH_NODE);
        CHECK.due("addWalker(7)", x.addWalker(7), 2);
        CHECK.due("addWalker(3)", x.addWalker(3), 3);
        CHECK.due("position(0)", x.position(0), 7);
        CHECK.due("position(1)", x.position(1), 0);
        CHECK.due("position(2)", x.position(2), 7);
        CHECK.due("position(3)", x.position(3), 3);
    }

    private static void walkerAtNoNode() {
        for (int nodes = 2; nodes <= 8; nodes++) {
            RotorRouter x = Routers.loaded(Routers.path(nodes));
            for (int walkers = 0; walkers <= 4; walkers++) {
                for (int node : Routers.outside(nodes)) {
                    CHECK.due("addWalker(" + node + ")", x.addWalker(node), RotorRouter.NO_SUCH_NODE);
                }
                CHECK.due("walkerCount()", x.walkerCount(), walkers);
                x.addWalker(nodes - 1);
            }
        }
    }

    private static void fifthWalker() {
        RotorRouter x = Routers.loaded(Routers.path(8));
        x.addWalker(0);
        x.snapshot();
        for (int walker = 1; walker < 4; walker++) {
            CHECK.due("addWalker", x.addWalker(walker), walker);
        }
        for (int node = 0; node < 8; node++) {
            CHECK.due("addWalker(" + node + ")", x.addWalker(node), RotorRouter.TOO_MANY_WALKERS);
        }
        x.absorb(0, false);
        CHECK.due("addWalker(0) after absorb", x.addWalker(0), RotorRouter.TOO_MANY_WALKERS);
        x.restore();
        CHECK.due("addWalker(5) after restore", x.addWalker(5), 1);
    }

    private static void positionOfNoWalker() {
        RotorRouter x = Routers.loaded(Routers.path(8));
        for (int walkers = 0; walkers <= 4; walkers++) {
            for (int walker : Routers.outside(walkers)) {
                CHECK.due("position(" + walker + ")", x.position(walker),
                    walker == 0 && walkers > 0 ? 7 : RotorRouter.NO_SUCH_WALKER);
            }
            for (int walker = 0; walker < walkers; walker++) {
                CHECK.due("position(" + walker + ")", x.position(walker), 7 - walker);
            }
            x.addWalker(7 - walkers);
        }
    }

    private static void fewestAndMostSteps() {
        RotorRouter x = Routers.loaded(Routers.path(8));
        x.addWalker(0);
        x.addWalker(5);
        // The walk is at 7 for the first time after 49 steps, and then makes rounds of 14 steps.
        x.step(0, 42);
        CHECK.due("step(0, 7)", x.step(0, 7), 7);
        CHECK.due("step(0, 1)", x.step(0, 1), 6);
        CHECK.due("step(0, 1000)", x.step(0, 1000), 0);
        CHECK.due("position(0)", x.position(0), 0);
        CHECK.due("step(0, 999)", x.step(0, 999), 5);
        CHECK.due("position(1)", x.position(1), 5);
        CHECK.due("steps in all", arrivals(x, 8), 42 + 7 + 1 + 1000 + 999);
    }

    private static int arrivals(RotorRouter x, int nodes) {
        int arrivals = 0;
        for (int node = 0; node < nodes; node++) {
            arrivals += x.arrivals(node);
        }
        return arrivals;
    }

    private static void stepOfNoWalker() {
        RotorRouter x = Routers.loaded(Routers.path(8));
        for (int walkers = 0; walkers < 4; walkers++) {
            for (int walker : new int[] {-1, walkers, 4, Integer.MIN_VALUE, Integer.MAX_VALUE}) {
                for (int steps : new int[] {1, 1000, 0, 1001, -1}) {
                    CHECK.due("step(" + walker + ", " + steps + ")", x.step(walker, steps), RotorRouter.NO_SUCH_WALKER);
                }
            }
            x.addWalker(walkers);
        }
        CHECK.due("step(4, 1)", x.step(4, 1), RotorRouter.NO_SUCH_WALKER);
        CHECK.due("step(3, 1)", x.step(3, 1), 2);
    }

    private static void stepsOutOfRange() {
        RotorRouter x = Routers.loaded(Routers.path(8));
        x.addWalker(4);
        int[] numbers = {0, -1, 1001, 1002, -1000, 65536, 65537, Integer.MIN_VALUE, Integer.MIN_VALUE + 1,
            Integer.MAX_VALUE};
        for (int steps : numbers) {
            CHECK.due("step(0, " + steps + ")", x.step(0, steps), RotorRouter.OUT_OF_RANGE);
            CHECK.due("position(0)", x.position(0), 4);
        }
        CHECK.due("arrivals", arrivals(x, 8), 0);
    }

    private static void absorbMovesAllWalkers() {
        for (boolean roundRobin : ORDERS) {
            for (int walkers = 1; walkers <= 4; walkers++) {
                for (int sink = 0; sink < 8; sink++) {
                    RotorRouter x = Routers.loaded(Routers.CUBE);
                    for (int walker = 0; walker < walkers; walker++) {
                        x.addWalker(2 * walker);
                    }
                    x.absorb(sink, roundRobin);
                    for (int walker = 0; walker < walkers; walker++) {
                        CHECK.due("position(" + walker + ")", x.position(walker), sink);
                    }
                    CHECK.due("walkerCount()", x.walkerCount(), walkers);
                }
            }
        }
    }

    private static void absorbStepsAsStepDoes() {
        for (boolean roundRobin : ORDERS) {
            // From 0 with all rotors 0 the walk of the path goes 0, 1, 0, 1, 2.
            RotorRouter x = Routers.loaded(Routers.PATH);
            x.addWalker(0);
            CHECK.due("absorb(2)", x.absorb(2, roundRobin), 4);
            CHECK.due("rotor(1)", x.rotor(1), 0);
            CHECK.due("arrivals(0)", x.arrivals(0), 1);
            CHECK.due("arrivals(1)", x.arrivals(1), 2);
            CHECK.due("arrivals(2)", x.arrivals(2), 1);
            CHECK.due("departures(0, 0)", x.departures(0, 0), 2);
            CHECK.due("departures(1, 0)", x.departures(1, 0), 1);
            CHECK.due("departures(1, 1)", x.departures(1, 1), 1);
            CHECK.due("departures(2, 0)", x.departures(2, 0), 0);
            // The farthest way: 49 steps from one end of the longest path to the other.
            RotorRouter longest = Routers.loaded(Routers.path(8));
            RotorRouter twin = Routers.loaded(Routers.path(8));
            longest.addWalker(0);
            twin.addWalker(0);
            CHECK.due("absorb(7)", longest.absorb(7, roundRobin), 49);
            twin.step(0, 49);
            CHECK.same("the longest path", Routers.seen(longest), Routers.seen(twin));
        }
    }

    private static void walkersAtSinkStay() {
        for (boolean roundRobin : ORDERS) {
            RotorRouter x = Routers.loaded(Routers.TRIANGLE);
            for (int walker = 0; walker < 4; walker++) {
                x.addWalker(1);
            }
            String before = Routers.seen(x);
            CHECK.due("absorb(1) of four at it", x.absorb(1, roundRobin), 0);
            CHECK.same("nothing moved", Routers.seen(x), before);
            // Walkers 0 and 2 are there, walker 1 goes 0, 1, and walker 3 goes 0, 2, 1.
            RotorRouter some = Routers.loaded(Routers.TRIANGLE);
            for (int walker = 0; walker < 4; walker++) {
                some.addWalker(walker % 2 == 0 ? 1 : 0);
            }
            CHECK.due("absorb(1) of two", some.absorb(1, roundRobin), 3);
            CHECK.due("rotor(1)", some.rotor(1), 0);
            CHECK.due("departures(1, 0)", some.departures(1, 0), 0);
            CHECK.due("departures(1, 1)", some.departures(1, 1), 0);
            CHECK.due("arrivals(1)", some.arrivals(1), 2);
            CHECK.due("absorb(0), another call", some.absorb(0, roundRobin), 7);
        }
    }

    private static void oneWalkerAfterTheOther() {
        for (int sink = 0; sink < 6; sink++) {
            RotorRouter x = fourOnPath();
            RotorRouter twin = fourOnPath();
            int steps = 0;
            for (int walker = 0; walker < 4; walker++) {
                while (twin.position(walker) != sink) {
                    twin.step(walker, 1);
                    steps++;
                }
            }
            CHECK.due("absorb(" + sink + ", false)", x.absorb(sink, false), steps);
            CHECK.same("steps one by one", Routers.seen(x), Routers.seen(twin));
        }
    }

    private static void walkersInPasses() {
        for (int sink = 0; sink < 6; sink++) {
            RotorRouter x = fourOnPath();
            RotorRouter twin = fourOnPath();
            int steps = 0;
            int before;
            do {
                before = steps;
                for (int walker = 0; walker < 4; walker++) {
                    if (twin.position(walker) != sink) {
                        twin.step(walker, 1);
                        steps++;
                    }
                }
            } while (steps > before);
            CHECK.due("absorb(" + sink + ", true)", x.absorb(sink, true), steps);
            CHECK.same("steps in passes", Routers.seen(x), Routers.seen(twin));
        }
    }

    private static RotorRouter fourOnPath() {
        RotorRouter x = Routers.loaded("6:01,12,23,34,45,13");
        x.addWalker(2);
        x.addWalker(5);
        x.addWalker(0);
        x.addWalker(2);
        return x;
    }

    private static void stepsOfThisCall() {
        for (boolean roundRobin : ORDERS) {
            RotorRouter x = Routers.loaded("2:01");
            x.addWalker(0);
            x.step(0, 1000);
            CHECK.due("absorb(1) of one", x.absorb(1, roundRobin), 1);
            CHECK.due("absorb(1) again", x.absorb(1, roundRobin), 0);
            CHECK.due("absorb(0)", x.absorb(0, roundRobin), 1);
            x.addWalker(0);
            x.addWalker(0);
            x.addWalker(0);
            CHECK.due("absorb(1) of four", x.absorb(1, roundRobin), 4);
            CHECK.due("absorb(1) again of four", x.absorb(1, roundRobin), 0);
        }
    }

    private static void absorbWithoutWalkers() {
        for (boolean roundRobin : ORDERS) {
            for (int sink = 0; sink < 3; sink++) {
                RotorRouter x = Routers.loaded(Routers.PATH);
                CHECK.due("absorb(" + sink + ")", x.absorb(sink, roundRobin), 0);
                CHECK.same("nothing moved", Routers.seen(x), Routers.seen(Routers.loaded(Routers.PATH)));
            }
        }
    }

    private static void sinkThatDoesNotExist() {
        for (boolean roundRobin : ORDERS) {
            for (int nodes = 2; nodes <= 8; nodes++) {
                RotorRouter x = Routers.loaded(Routers.path(nodes));
                for (int walkers = 0; walkers <= 4; walkers += 4) {
                    for (int sink : Routers.outside(nodes)) {
                        CHECK.due("absorb(" + sink + ")", x.absorb(sink, roundRobin), RotorRouter.NO_SUCH_NODE);
                    }
                    for (int walker = 0; walker < 4; walker++) {
                        x.addWalker(0);
                    }
                }
                CHECK.due("arrivals", arrivals(x, nodes), 0);
            }
        }
    }

    private static void arrivalsSinceLoad() {
        RotorRouter x = Routers.loaded("2:01");
        CHECK.due("arrivals(1) at first", x.arrivals(1), 0);
        x.addWalker(0);
        x.addWalker(0);
        x.step(0, 1);
        CHECK.due("arrivals(1) of one", x.arrivals(1), 1);
        x.step(1, 1);
        CHECK.due("arrivals(1) of two walkers", x.arrivals(1), 2);
        CHECK.due("arrivals(0)", x.arrivals(0), 0);
        x.absorb(0, false);
        x.absorb(1, true);
        CHECK.due("arrivals(0) by absorb", x.arrivals(0), 2);
        CHECK.due("arrivals(1) by absorb", x.arrivals(1), 4);
        for (int call = 0; call < 100; call++) {
            x.step(0, 1000);
        }
        CHECK.due("arrivals(1) of 100000 steps", x.arrivals(1), 50004);
        Routers.type(x, "2:01");
        x.load();
        CHECK.due("arrivals(1) of a new graph", x.arrivals(1), 0);
    }

    private static void addingIsNoArrival() {
        RotorRouter x = Routers.loaded(Routers.path(8));
        for (int walker = 0; walker < 4; walker++) {
            x.addWalker(7);
            CHECK.due("arrivals(7)", x.arrivals(7), 0);
        }
        x.snapshot();
        x.restore();
        CHECK.due("arrivals(7) after restore", x.arrivals(7), 0);
        x.absorb(7, true);
        CHECK.due("arrivals(7) after absorb", x.arrivals(7), 0);
    }

    private static void arrivalsAtNoNode() {
        for (int nodes = 2; nodes <= 8; nodes++) {
            RotorRouter x = Routers.loaded(Routers.path(nodes));
            x.addWalker(0);
            x.step(0, 1000);
            for (int node = 0; node < nodes; node++) {
                CHECK.holds("arrivals(" + node + ")", x.arrivals(node) > 0);
            }
            for (int node : Routers.outside(nodes)) {
                CHECK.due("arrivals(" + node + ")", x.arrivals(node), RotorRouter.NO_SUCH_NODE);
            }
        }
    }

    private static void departuresSinceLoad() {
        RotorRouter x = Routers.loaded(Routers.star(8));
        x.addWalker(7);
        x.setRotor(7, 6);
        CHECK.due("departures(7, 6) at first", x.departures(7, 6), 0);
        x.step(0, 1);
        CHECK.due("departures(7, 6)", x.departures(7, 6), 1);
        CHECK.due("departures(7, 0)", x.departures(7, 0), 0);
        CHECK.due("departures(6, 0)", x.departures(6, 0), 0);
        x.step(0, 2);
        CHECK.due("departures(6, 0)", x.departures(6, 0), 1);
        CHECK.due("departures(7, 6)", x.departures(7, 6), 1);
        CHECK.due("departures(7, 0)", x.departures(7, 0), 1);
        x.step(0, 999);
        // 501 departures from the center in all, in the order 6, 0, 1, .., 5: 71 rounds and four more.
        for (int index = 0; index < 7; index++) {
            CHECK.due("departures(7, " + index + ")", x.departures(7, index), index < 3 || index == 6 ? 72 : 71);
        }
        Routers.type(x, Routers.star(8));
        x.load();
        CHECK.due("departures(7, 6) of a new graph", x.departures(7, 6), 0);
    }

    private static void departuresFromNoNode() {
        for (int nodes = 2; nodes <= 8; nodes++) {
            RotorRouter x = Routers.loaded(Routers.star(nodes));
            for (int node : Routers.outside(nodes)) {
                CHECK.due("departures(" + node + ", 0)", x.departures(node, 0), RotorRouter.NO_SUCH_NODE);
                CHECK.due("departures(" + node + ", -1)", x.departures(node, -1), RotorRouter.NO_SUCH_NODE);
                CHECK.due("departures(" + node + ", 7)", x.departures(node, 7), RotorRouter.NO_SUCH_NODE);
            }
        }
    }

    private static void departuresOutOfRange() {
        for (int nodes = 2; nodes <= 8; nodes++) {
            RotorRouter x = Routers.loaded(Routers.star(nodes));
            int center = nodes - 1;
            CHECK.due("departures, the last", x.departures(center, center - 1), 0);
            for (int index : Routers.outside(center)) {
                CHECK.due("departures, " + index, x.departures(center, index), RotorRouter.OUT_OF_RANGE);
            }
            CHECK.due("departures of a ray, 0", x.departures(0, 0), 0);
            CHECK.due("departures of a ray, 1", x.departures(0, 1), RotorRouter.OUT_OF_RANGE);
            CHECK.due("departures of a ray, -1", x.departures(0, -1), RotorRouter.OUT_OF_RANGE);
        }
    }

    private static void walkerCounts() {
        RotorRouter x = new RotorRouter();
        CHECK.due("walkerCount() without a graph", x.walkerCount(), 0);
        Routers.type(x, Routers.PATH);
        x.load();
        CHECK.due("walkerCount() of a new graph", x.walkerCount(), 0);
        for (int walkers = 1; walkers <= 5; walkers++) {
            x.addWalker(0);
            CHECK.due("walkerCount() of " + walkers, x.walkerCount(), Math.min(walkers, 4));
        }
        x.absorb(2, false);
        CHECK.due("walkerCount() after absorb", x.walkerCount(), 4);
        Routers.type(x, Routers.PATH);
        x.load();
        CHECK.due("walkerCount() after load", x.walkerCount(), 0);
    }
}
