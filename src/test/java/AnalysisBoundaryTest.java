/** The boundary cases of promises 16 to 20, a test for each sentence. */
public final class AnalysisBoundaryTest {
    private static final Check CHECK = new Check();
    /** A clique at the end of a long tail: no graph was found with a later cycle or a longer cover time. */
    private static final String SLOW = "8:65,31,35,16,71,30,74,60,24,36,10,50";
    private static final int[] SLOW_ROTORS = {3, 3, 0, 1, 0, 0, 2, 0};
    private static final int SLOW_START = 5;

    public static void main(String[] args) {
        CHECK.sentence("Promise 16", "analysis: none of these methods changes anything",
            AnalysisBoundaryTest::analysesChangeNothing);
        CHECK.sentence("Promise 16", "Only this walker moves, from its current node with the current rotors.",
            AnalysisBoundaryTest::cycleOfThisWalkerOnly);
        CHECK.sentence("Promise 16", "Its configuration is its node together with all rotors.",
            AnalysisBoundaryTest::configurationHasAllRotors);
        CHECK.sentence("Promise 16",
            "Returns the least t, 0 or more, for which the configuration after t steps equals the"
                + " configuration after t + p steps",
            AnalysisBoundaryTest::earliestAndLatestCycle);
        CHECK.sentence("Promise 16", "p being twice the number of links", AnalysisBoundaryTest::periodOfCycle);
        CHECK.sentence("Promise 16", "NO_SUCH_WALKER if the walker does not exist.",
            AnalysisBoundaryTest::cycleOfNoWalker);
        CHECK.sentence("Promise 17", "Only this walker moves, from its current node with the current rotors.",
            AnalysisBoundaryTest::coverOfThisWalkerOnly);
        CHECK.sentence("Promise 17", "Returns the least t, 0 or more, such that every node has been the walker's node",
            AnalysisBoundaryTest::shortestAndLongestCover);
        CHECK.sentence("Promise 17", "at the start or after one of the first t steps",
            AnalysisBoundaryTest::startIsCovered);
        CHECK.sentence("Promise 17", "NO_SUCH_WALKER if the walker does not exist.",
            AnalysisBoundaryTest::coverOfNoWalker);
        CHECK.sentence("Promise 18",
            "Searches all assignments of rotors (each node has any of its neighbors) for the least cover time"
                + " of a single walker.",
            AnalysisBoundaryTest::firstAndLastAssignment);
        CHECK.sentence("Promise 18", "NO_SUCH_NODE if the start does not exist (checked first)",
            AnalysisBoundaryTest::leastCoverOfNoNode);
        CHECK.sentence("Promise 18", "TOO_LARGE if there are more than 2000 assignments.",
            AnalysisBoundaryTest::leastCoverOfTooMany);
        CHECK.sentence("Promise 19",
            "Of several assignments with the least cover time, the best is the one with the least rotor at"
                + " node 0; of those, the one with the least rotor at node 1; and so on.",
            AnalysisBoundaryTest::bestOfSeveral);
        CHECK.sentence("Promise 19", "NO_SUCH_NODE if one of the two nodes does not exist (checked first)",
            AnalysisBoundaryTest::bestRotorOfNoNode);
        CHECK.sentence("Promise 19", "TOO_LARGE if there are more than 2000 assignments.",
            AnalysisBoundaryTest::bestRotorOfTooMany);
        CHECK.sentence("Promise 20",
            "the array p has 1.0 for the start and 0.0 for all other nodes; the result e is 0.0",
            AnalysisBoundaryTest::beginningOfArithmetic);
        CHECK.sentence("Promise 20", "Each step fills a new array q with 0.0",
            AnalysisBoundaryTest::newArrayOfEachStep);
        CHECK.sentence("Promise 20",
            "for each node v in ascending order and each neighbor w of v in the order of the neighbors, q[w]"
                + " += p[v] / degree(v). After that, e += q[node], and q replaces p.",
            AnalysisBoundaryTest::orderOfArithmetic);
        CHECK.sentence("Promise 20", "the number of steps, 0 to 50", AnalysisBoundaryTest::noRandomSteps);
        CHECK.sentence("Promise 20", "the number of steps, 0 to 50", AnalysisBoundaryTest::mostRandomSteps);
        CHECK.sentence("Promise 20", "Returns double.doubleToLongBits of e", AnalysisBoundaryTest::bitsOfExpectation);
        CHECK.sentence("Promise 20", "NO_SUCH_NODE if one of the two nodes does not exist (checked first)",
            AnalysisBoundaryTest::expectationOfNoNode);
        CHECK.sentence("Promise 20", "OUT_OF_RANGE if steps is out of range.",
            AnalysisBoundaryTest::expectationOutOfRange);
        CHECK.finish();
    }

    private static void analysesChangeNothing() {
        for (String graph : new String[] {Routers.SQUARE, Routers.ASSIGNMENTS_2000, Routers.ASSIGNMENTS_2016}) {
            RotorRouter x = Routers.busy(graph, 3, "2:01");
            RotorRouter twin = Routers.busy(graph, 3, "2:01");
            for (int walker = 0; walker < 3; walker++) {
                x.stepsToCycle(walker);
                x.coverTime(walker);
            }
            for (int node = 0; node < 4; node++) {
                x.leastCoverTime(node);
                x.bestRotor(node, 3 - node);
                x.expectedArrivals(node, 50, 3 - node);
            }
            CHECK.same("all of " + graph, Routers.seen(x), Routers.seen(twin));
            CHECK.due("restore()", x.restore(), twin.restore());
            CHECK.same("the snapshot of " + graph, Routers.seen(x), Routers.seen(twin));
        }
    }

    private static void cycleOfThisWalkerOnly() {
        RotorRouter x = Routers.loaded(Routers.path(8));
        int[] nodes = {0, 7, 7, 0};
        for (int node : nodes) {
            x.addWalker(node);
        }
        for (int walker = 0; walker < 4; walker++) {
            CHECK.due("stepsToCycle(" + walker + ")", x.stepsToCycle(walker), nodes[walker] == 0 ? 36 : 0);
        }
        x.step(3, 36);
        CHECK.due("stepsToCycle(3) when it is there", x.stepsToCycle(3), 0);
        RotorRouter y = Routers.loaded(Routers.path(8));
        y.addWalker(0);
        y.step(0, 35);
        CHECK.due("stepsToCycle(0) a step before", y.stepsToCycle(0), 1);
        y.setRotor(6, 1);
        y.step(0, 1);
        CHECK.due("stepsToCycle(0) of a rotor set to the end", y.stepsToCycle(0), 0);
    }

    private static void configurationHasAllRotors() {
        // The node and the rotor of node 1; the walk of a path has the round (1, 0), (0, 1), (1, 1), (2, 0).
        int[][] cases = {{0, 0, 1}, {0, 1, 0}, {1, 0, 0}, {1, 1, 0}, {2, 0, 0}, {2, 1, 1}};
        for (int[] c : cases) {
            RotorRouter x = Routers.loaded(Routers.PATH);
            x.addWalker(c[0]);
            x.setRotor(1, c[1]);
            CHECK.due("stepsToCycle(0) at " + c[0] + " with " + c[1], x.stepsToCycle(0), c[2]);
        }
        // At node 0 with the rotors 0 0 r of a triangle, the rotor of the last node decides.
        for (int rotor = 0; rotor < 2; rotor++) {
            RotorRouter x = Routers.loaded(Routers.TRIANGLE);
            x.addWalker(0);
            x.setRotor(2, rotor);
            CHECK.due("stepsToCycle(0) with " + rotor + " at node 2", x.stepsToCycle(0), rotor);
        }
    }

    private static void earliestAndLatestCycle() {
        for (int node = 0; node < 2; node++) {
            RotorRouter least = Routers.loaded("2:01");
            least.addWalker(node);
            CHECK.due("stepsToCycle(0) of 2:01", least.stepsToCycle(0), 0);
        }
        RotorRouter most = slow();
        CHECK.due("stepsToCycle(0)", most.stepsToCycle(0), 54);
        most.step(0, 53);
        CHECK.due("stepsToCycle(0) a step before", most.stepsToCycle(0), 1);
        most.step(0, 1);
        CHECK.due("stepsToCycle(0) in the cycle", most.stepsToCycle(0), 0);
        most.step(0, 1000);
        CHECK.due("stepsToCycle(0) long after", most.stepsToCycle(0), 0);
    }

    private static void periodOfCycle() {
        RotorRouter cube = Routers.loaded(Routers.CUBE);
        for (int node : new int[] {0, 1, 2, 7}) {
            cube.addWalker(node);
        }
        int[] cycles = {4, 7, 5, 3};
        for (int walker = 0; walker < 4; walker++) {
            CHECK.due("stepsToCycle(" + walker + ") of 12 links", cube.stepsToCycle(walker), cycles[walker]);
        }
        for (int nodes = 2; nodes <= 8; nodes++) {
            RotorRouter x = Routers.loaded(Routers.path(nodes));
            x.addWalker(0);
            CHECK.due("stepsToCycle(0) of " + (nodes - 1) + " links",
                x.stepsToCycle(0), (nodes - 2) * (nodes - 2));
            x.step(0, (nodes - 2) * (nodes - 2));
            String before = x.position(0) + " " + x.rotor(0) + x.rotor(nodes / 2) + x.rotor(nodes - 1);
            x.step(0, 2 * (nodes - 1));
            CHECK.same("the configuration a period later",
                x.position(0) + " " + x.rotor(0) + x.rotor(nodes / 2) + x.rotor(nodes - 1), before);
        }
    }

    private static void cycleOfNoWalker() {
        RotorRouter x = Routers.loaded(Routers.PATH);
        for (int walkers = 0; walkers < 4; walkers++) {
            for (int walker : new int[] {-1, walkers, 4, Integer.MIN_VALUE, Integer.MAX_VALUE}) {
                CHECK.due("stepsToCycle(" + walker + ")", x.stepsToCycle(walker), RotorRouter.NO_SUCH_WALKER);
            }
            x.addWalker(2);
        }
        CHECK.due("stepsToCycle(3)", x.stepsToCycle(3), 0);
        CHECK.due("stepsToCycle(4)", x.stepsToCycle(4), RotorRouter.NO_SUCH_WALKER);
    }

    private static void coverOfThisWalkerOnly() {
        RotorRouter x = Routers.loaded(Routers.path(8));
        int[] nodes = {0, 7, 7, 0};
        for (int node : nodes) {
            x.addWalker(node);
        }
        for (int walker = 0; walker < 4; walker++) {
            CHECK.due("coverTime(" + walker + ")", x.coverTime(walker), nodes[walker] == 0 ? 49 : 7);
        }
        x.step(0, 49);
        CHECK.due("coverTime(0) forgets its steps", x.coverTime(0), 7);
        for (int node = 1; node < 7; node++) {
            x.setRotor(node, 1);
        }
        CHECK.due("coverTime(0) with other rotors", x.coverTime(0), 49);
        CHECK.due("coverTime(3) with other rotors", x.coverTime(3), 7);
    }

    private static void shortestAndLongestCover() {
        RotorRouter least = Routers.loaded("2:01");
        least.addWalker(1);
        CHECK.due("coverTime(0) of 2:01", least.coverTime(0), 1);
        RotorRouter most = slow();
        CHECK.due("coverTime(0)", most.coverTime(0), 77);
        for (int nodes = 2; nodes <= 8; nodes++) {
            RotorRouter x = Routers.loaded(Routers.star(nodes));
            x.addWalker(nodes - 1);
            CHECK.due("coverTime(0) of a star", x.coverTime(0), 2 * (nodes - 1) - 1);
        }
    }

    private static void startIsCovered() {
        // From a ray, the star is covered by the other rays alone, if the rotor comes to its own ray last.
        RotorRouter x = Routers.loaded(Routers.star(8));
        for (int node = 0; node < 4; node++) {
            x.addWalker(node);
            x.setRotor(7, node + 1);
            CHECK.due("coverTime(" + node + ") behind the start", x.coverTime(node), 12);
            x.setRotor(7, node);
            CHECK.due("coverTime(" + node + ") by the start", x.coverTime(node), 14);
        }
    }

    private static void coverOfNoWalker() {
        RotorRouter x = Routers.loaded(Routers.PATH);
        for (int walkers = 0; walkers < 4; walkers++) {
            for (int walker : new int[] {-1, walkers, 4, Integer.MIN_VALUE, Integer.MAX_VALUE}) {
                CHECK.due("coverTime(" + walker + ")", x.coverTime(walker), RotorRouter.NO_SUCH_WALKER);
            }
            x.addWalker(2);
        }
        CHECK.due("coverTime(3)", x.coverTime(3), 2);
        CHECK.due("coverTime(4)", x.coverTime(4), RotorRouter.NO_SUCH_WALKER);
    }

    private static void firstAndLastAssignment() {
        RotorRouter one = Routers.loaded("2:01");
        CHECK.due("leastCoverTime(0) of the only assignment", one.leastCoverTime(0), 1);
        CHECK.due("leastCoverTime(1) of the only assignment", one.leastCoverTime(1), 1);
        RotorRouter path = Routers.loaded(Routers.path(8));
        int[] least = {7, 8, 9, 10, 10, 9, 8, 7};
        for (int start = 0; start < 8; start++) {
            CHECK.due("leastCoverTime(" + start + ")", path.leastCoverTime(start), least[start]);
        }
        for (int node = 1; node < 7; node++) {
            CHECK.due("bestRotor(0, " + node + ") of the last assignment", path.bestRotor(0, node), 1);
            CHECK.due("bestRotor(7, " + node + ") of the first assignment", path.bestRotor(7, node), 0);
        }
        RotorRouter walked = Routers.busy(Routers.path(8), 4, "");
        for (int start = 0; start < 8; start++) {
            CHECK.due("leastCoverTime(" + start + ") whatever has been", walked.leastCoverTime(start), least[start]);
        }
    }

    private static void leastCoverOfNoNode() {
        RotorRouter small = Routers.loaded("2:01");
        RotorRouter large = Routers.loaded(Routers.ASSIGNMENTS_2016);
        for (int start : Routers.outside(8)) {
            CHECK.due("leastCoverTime(" + start + ")", small.leastCoverTime(start), RotorRouter.NO_SUCH_NODE);
            CHECK.due("leastCoverTime(" + start + ") of 2016", large.leastCoverTime(start), RotorRouter.NO_SUCH_NODE);
        }
        CHECK.due("leastCoverTime(2)", small.leastCoverTime(2), RotorRouter.NO_SUCH_NODE);
        CHECK.due("leastCoverTime(7) of 2016", large.leastCoverTime(7), RotorRouter.TOO_LARGE);
    }

    private static void leastCoverOfTooMany() {
        RotorRouter most = Routers.loaded(Routers.ASSIGNMENTS_2000);
        int[] least = {9, 9, 9, 8, 8, 8, 8, 8};
        RotorRouter over = Routers.loaded(Routers.ASSIGNMENTS_2016);
        RotorRouter farOver = Routers.loaded(Routers.CUBE);
        for (int start = 0; start < 8; start++) {
            CHECK.due("leastCoverTime(" + start + ") of 2000", most.leastCoverTime(start), least[start]);
            CHECK.due("leastCoverTime(" + start + ") of 2016", over.leastCoverTime(start), RotorRouter.TOO_LARGE);
            CHECK.due("leastCoverTime(" + start + ") of 6561", farOver.leastCoverTime(start), RotorRouter.TOO_LARGE);
        }
    }

    private static void bestOfSeveral() {
        best("2:01", 0, 0, 0);
        best(Routers.TRIANGLE, 0, 0, 1, 0);
        best(Routers.PATH, 1, 0, 0, 0);
        best("4:13,01,21,30,02", 0, 1, 2, 0, 0);
        best("6:40,45,30,02,32,51,01", 4, 1, 1, 0, 1, 1, 1);
        best("6:04,21,10,31,51,05,25,32", 4, 1, 2, 1, 1, 0, 0);
        best(Routers.path(8), 3, 0, 0, 0, 0, 1, 1, 1, 0);
        best(Routers.ASSIGNMENTS_2000, 0, 2, 4, 3, 0, 1, 1, 0, 0);
        best(Routers.ASSIGNMENTS_2000, 6, 2, 4, 2, 1, 1, 0, 1, 0);
        // The rotors 1 0 0 are as good, but have no say because they are set.
        RotorRouter set = Routers.loaded(Routers.TRIANGLE);
        set.setRotor(0, 1);
        best(set, "a triangle with rotor 1 at node 0", 0, 0, 1, 0);
        // Nor has what the search before has left.
        RotorRouter again = Routers.loaded("4:10,12,30,31,20");
        for (int round = 0; round < 2; round++) {
            best(again, "the same graph", 0, 1, 1, 0, 1);
            best(again, "the same graph", 2, 0, 2, 0, 0);
            best(again, "the same graph", 1, 1, 1, 1, 0);
            best(again, "the same graph", 3, 0, 1, 0, 0);
        }
    }

    private static void best(String text, int start, int... rotors) {
        best(Routers.loaded(text), text, start, rotors);
    }

    private static void best(RotorRouter x, String text, int start, int... rotors) {
        for (int node = 0; node < rotors.length; node++) {
            CHECK.due("bestRotor(" + start + ", " + node + ") of " + text, x.bestRotor(start, node), rotors[node]);
        }
    }

    private static void bestRotorOfNoNode() {
        RotorRouter small = Routers.loaded("2:01");
        RotorRouter large = Routers.loaded(Routers.ASSIGNMENTS_2016);
        CHECK.due("bestRotor(2, 0)", small.bestRotor(2, 0), RotorRouter.NO_SUCH_NODE);
        CHECK.due("bestRotor(0, 2)", small.bestRotor(0, 2), RotorRouter.NO_SUCH_NODE);
        for (int node : Routers.outside(8)) {
            for (RotorRouter x : new RotorRouter[] {small, large}) {
                CHECK.due("bestRotor(" + node + ", 0)", x.bestRotor(node, 0), RotorRouter.NO_SUCH_NODE);
                CHECK.due("bestRotor(1, " + node + ")", x.bestRotor(1, node), RotorRouter.NO_SUCH_NODE);
                CHECK.due("bestRotor(" + node + ", " + node + ")", x.bestRotor(node, node), RotorRouter.NO_SUCH_NODE);
            }
        }
    }

    private static void bestRotorOfTooMany() {
        RotorRouter most = Routers.loaded(Routers.ASSIGNMENTS_2000);
        CHECK.due("bestRotor(0, 1) of 2000", most.bestRotor(0, 1), 4);
        RotorRouter over = Routers.loaded(Routers.ASSIGNMENTS_2016);
        RotorRouter farOver = Routers.loaded(Routers.CUBE);
        for (int node = 0; node < 8; node++) {
            CHECK.due("bestRotor of 2016", over.bestRotor(node, 7 - node), RotorRouter.TOO_LARGE);
            CHECK.due("bestRotor of 6561", farOver.bestRotor(7 - node, node), RotorRouter.TOO_LARGE);
        }
    }

    /** The calls before, and the graph before, leave nothing behind. */
    private static void beginningOfArithmetic() {
        RotorRouter x = Routers.loaded(Routers.path(8));
        for (int start = 0; start < 8; start++) {
            for (int node = 0; node < 8; node++) {
                double once = start == node ? 0.0 : Math.abs(start - node) > 1 ? 0.0 : start % 7 == 0 ? 1.0 : 0.5;
                CHECK.due("expectedArrivals(" + start + ", 1, " + node + ")",
                    x.expectedArrivals(start, 1, node), Double.doubleToLongBits(once));
            }
        }
        Routers.type(x, "2:01");
        x.load();
        CHECK.due("expectedArrivals(1, 1, 0) of a smaller graph", x.expectedArrivals(1, 1, 0), one());
        Routers.type(x, "3:01,12");
        x.load();
        CHECK.due("expectedArrivals(0, 1, 1) of a larger graph", x.expectedArrivals(0, 1, 1), one());
        CHECK.due("expectedArrivals(0, 1, 2) of a larger graph", x.expectedArrivals(0, 1, 2), 0L);
    }

    private static long one() {
        return Double.doubleToLongBits(1.0);
    }

    private static void newArrayOfEachStep() {
        RotorRouter x = Routers.loaded("2:01");
        for (int steps = 0; steps <= 50; steps++) {
            CHECK.due("expectedArrivals(0, " + steps + ", 0)",
                x.expectedArrivals(0, steps, 0), Double.doubleToLongBits(steps / 2));
            CHECK.due("expectedArrivals(0, " + steps + ", 1)",
                x.expectedArrivals(0, steps, 1), Double.doubleToLongBits(steps - steps / 2));
        }
    }

    /** Sums in another order, or a product instead of the quotient, end in other bits here. */
    private static void orderOfArithmetic() {
        expected("5:42,32,43,41,21,02,31", 1, 3, 2, 4606014818896625058L);
        expected("6:14,23,24,20,30,53,05,34", 0, 3, 3, 4605973118900075331L);
        expected("8:10,47,13,37,63,70,17,72,05", 7, 3, 1, 4602638787175959176L);
        expected("4:01,03,31,20", 1, 50, 2, 4618599747549258384L);
        expected("4:01,03,31,20", 1, 50, 3, 4623337909652708373L);
        expected("4:01,12,23,02", 2, 50, 0, 4623244084653894529L);
    }

    private static void noRandomSteps() {
        RotorRouter x = Routers.loaded(Routers.CUBE);
        for (int node = 0; node < 8; node++) {
            CHECK.due("expectedArrivals(3, 0, " + node + ")", x.expectedArrivals(3, 0, node), 0L);
        }
        expected(Routers.CUBE, 0, 1, 0, 0L);
        expected(Routers.CUBE, 0, 1, 1, Double.doubleToLongBits(1.0 / 3));
    }

    private static void mostRandomSteps() {
        expected("2:01", 0, 49, 1, Double.doubleToLongBits(25.0));
        expected("2:01", 0, 50, 1, Double.doubleToLongBits(25.0));
        expected("2:01", 0, 49, 0, Double.doubleToLongBits(24.0));
        expected("2:01", 0, 50, 0, Double.doubleToLongBits(25.0));
        expected(Routers.PATH, 1, 50, 0, Double.doubleToLongBits(12.5));
    }

    private static void bitsOfExpectation() {
        expected(Routers.path(8), 0, 6, 7, 0L);
        expected(Routers.path(8), 0, 7, 7, Double.doubleToLongBits(0.015625));
        expected("8:72,03,64,73,50,42,61,35,47", 0, 4, 1, 0L);
        expected("8:72,03,64,73,50,42,61,35,47", 0, 5, 1, 4576491221339418472L);
        expected(Routers.TRIANGLE, 0, 2, 1, Double.doubleToLongBits(0.75));
        for (int steps = 1; steps <= 50; steps++) {
            expected("2:01", 0, steps, 1, Double.doubleToLongBits((steps + 1) / 2));
        }
        expected(Routers.star(8), 7, 1, 6, Double.doubleToLongBits(1.0 / 7));
    }

    private static void expectationOfNoNode() {
        for (int nodes = 2; nodes <= 8; nodes += 3) {
            RotorRouter x = Routers.loaded(Routers.path(nodes));
            for (int node : Routers.outside(nodes)) {
                for (int steps : new int[] {0, 50, -1, 51}) {
                    String call = "expectedArrivals with " + node + " and " + steps + " steps";
                    CHECK.due(call, x.expectedArrivals(node, steps, 0), RotorRouter.NO_SUCH_NODE);
                    CHECK.due(call, x.expectedArrivals(nodes - 1, steps, node), RotorRouter.NO_SUCH_NODE);
                    CHECK.due(call, x.expectedArrivals(node, steps, node), RotorRouter.NO_SUCH_NODE);
                }
            }
        }
    }

    private static void expectationOutOfRange() {
        RotorRouter x = Routers.loaded("2:01");
        for (int steps : Routers.outside(51)) {
            CHECK.due("expectedArrivals(0, " + steps + ", 1)", x.expectedArrivals(0, steps, 1),
                RotorRouter.OUT_OF_RANGE);
        }
    }

    private static void expected(String text, int start, int steps, int node, long want) {
        String call = "expectedArrivals(" + start + ", " + steps + ", " + node + ") of " + text;
        CHECK.due(call, Routers.loaded(text).expectedArrivals(start, steps, node), want);
    }

    private static RotorRouter slow() {
        RotorRouter x = Routers.loaded(SLOW);
        for (int node = 0; node < 8; node++) {
            x.setRotor(node, SLOW_ROTORS[node]);
        }
        x.addWalker(SLOW_START);
        return x;
    }
}
