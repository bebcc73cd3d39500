/** Promises 16 to 20: stepsToCycle, coverTime, leastCoverTime, bestRotor, expectedArrivals. */
public final class AnalysisTest {
    private static final Check CHECK = new Check();
    private static final String PATH = "3:01,12";
    private static final String STAR = "8:70,71,72,73,74,75,76";
    private static final String ASSIGNMENTS_2000 = "8:01,12,20,03,04,05,13,16,17,24,25,26";
    private static final String ASSIGNMENTS_2025 = "8:01,02,03,04,06,12,13,15,17,24,35,45";

    public static void main(String[] args) {
        stepsToCycleOnPath();
        coverTimeOnPath();
        coverTimeOnStar();
        leastCoverTimes();
        bestRotorsOfSeveral();
        tooManyAssignments();
        searchAsksForNodes();
        expectations();
        expectationsAskForNodesAndSteps();
        analysesChangeNothing();
        CHECK.finish();
    }

    private static void stepsToCycleOnPath() {
        // The cycle is (1, 0), (0, 1), (1, 1), (2, 0): the node, and the rotor of node 1.
        int[][] cases = {{0, 0, 1}, {0, 1, 0}, {1, 0, 0}, {1, 1, 0}, {2, 0, 0}, {2, 1, 1}};
        for (int[] c : cases) {
            RotorRouter x = Routers.loaded(PATH);
            x.addWalker(c[0]);
            x.setRotor(1, c[1]);
            CHECK.due("stepsToCycle(0) at " + c[0] + " with " + c[1], x.stepsToCycle(0), c[2]);
        }
        RotorRouter two = Routers.loaded(PATH);
        two.addWalker(2);
        two.addWalker(0);
        CHECK.due("stepsToCycle(0) of two", two.stepsToCycle(0), 0);
        CHECK.due("stepsToCycle(1) of two", two.stepsToCycle(1), 1);
    }

    private static void coverTimeOnPath() {
        int[][] cases = {{0, 0, 4}, {0, 1, 2}, {1, 0, 3}, {1, 1, 3}, {2, 0, 2}, {2, 1, 4}};
        for (int[] c : cases) {
            RotorRouter x = Routers.loaded(PATH);
            x.addWalker(c[0]);
            x.setRotor(1, c[1]);
            CHECK.due("coverTime(0) at " + c[0] + " with " + c[1], x.coverTime(0), c[2]);
        }
        RotorRouter walked = Routers.loaded(PATH);
        walked.addWalker(0);
        walked.step(0, 4);
        CHECK.due("coverTime(0) forgets earlier steps", walked.coverTime(0), 2);
    }

    private static void coverTimeOnStar() {
        RotorRouter x = Routers.loaded(STAR);
        x.addWalker(7);
        x.addWalker(3);
        CHECK.due("coverTime(0) from the center", x.coverTime(0), 13);
        CHECK.due("coverTime(1) from a ray", x.coverTime(1), 14);
        x.setRotor(7, 4);
        CHECK.due("coverTime(1) past its own ray", x.coverTime(1), 12);
    }

    private static void leastCoverTimes() {
        leastCoverTime("2:01", 0, 1);
        leastCoverTime("2:01", 1, 1);
        leastCoverTime(PATH, 0, 2);
        leastCoverTime(PATH, 1, 3);
        leastCoverTime(PATH, 2, 2);
        leastCoverTime("3:01,12,20", 0, 2);
        leastCoverTime(STAR, 7, 13);
        leastCoverTime(STAR, 0, 12);
        leastCoverTime("8:01,12,23,34,45,56,67", 0, 7);
        leastCoverTime("8:01,12,23,34,45,56,67", 7, 7);
        leastCoverTime("8:01,12,23,34,45,56,67", 1, 8);
    }

    private static void leastCoverTime(String text, int start, int want) {
        CHECK.due("leastCoverTime(" + start + ") of " + text, Routers.loaded(text).leastCoverTime(start), want);
    }

    private static void bestRotorsOfSeveral() {
        RotorRouter path = Routers.loaded(PATH);
        CHECK.due("bestRotor(0, 1) of a path", path.bestRotor(0, 1), 1);
        CHECK.due("bestRotor(2, 1) of a path", path.bestRotor(2, 1), 0);
        CHECK.due("bestRotor(1, 1) of a path", path.bestRotor(1, 1), 0);
        RotorRouter star = Routers.loaded(STAR);
        CHECK.due("bestRotor(7, 7) of a star", star.bestRotor(7, 7), 0);
        CHECK.due("bestRotor(0, 7) of a star", star.bestRotor(0, 7), 1);
        CHECK.due("bestRotor(5, 7) of a star", star.bestRotor(5, 7), 6);
        CHECK.due("bestRotor(6, 7) of a star", star.bestRotor(6, 7), 0);
        CHECK.due("bestRotor(6, 6) of a star", star.bestRotor(6, 6), 0);
        // From 0 the triangle is covered by 0, 1, 2 with rotors 0 1 x and by 0, 2, 1 with 1 x 0.
        RotorRouter triangle = Routers.loaded("3:01,12,20");
        CHECK.due("bestRotor(0, 0) of a triangle", triangle.bestRotor(0, 0), 0);
        CHECK.due("bestRotor(0, 1) of a triangle", triangle.bestRotor(0, 1), 1);
        CHECK.due("bestRotor(0, 2) of a triangle", triangle.bestRotor(0, 2), 0);
        // From 2 it is covered by 2, 1, 0 with rotors x 0 0 and by 2, 0, 1 with 0 x 1.
        CHECK.due("bestRotor(2, 0) of a triangle", triangle.bestRotor(2, 0), 0);
        CHECK.due("bestRotor(2, 1) of a triangle", triangle.bestRotor(2, 1), 0);
        CHECK.due("bestRotor(2, 2) of a triangle", triangle.bestRotor(2, 2), 0);
        triangle.setRotor(1, 1);
        CHECK.due("leastCoverTime(2) whatever the rotors", triangle.leastCoverTime(2), 2);
        CHECK.due("bestRotor(2, 1) whatever the rotors", triangle.bestRotor(2, 1), 0);
    }

    private static void tooManyAssignments() {
        RotorRouter most = Routers.loaded(ASSIGNMENTS_2000);
        Model model = new Model();
        model.typeAndLoad(ASSIGNMENTS_2000);
        for (int start = 0; start < 8; start++) {
            CHECK.due("leastCoverTime of 2000", most.leastCoverTime(start), model.leastCoverTime(start));
            for (int node = 0; node < 8; node++) {
                CHECK.due("bestRotor of 2000", most.bestRotor(start, node), model.bestRotor(start, node));
            }
        }
        CHECK.holds("leastCoverTime of 2000 is a time", most.leastCoverTime(0) >= 7);
        RotorRouter over = Routers.loaded(ASSIGNMENTS_2025);
        CHECK.due("leastCoverTime(0) of 2025", over.leastCoverTime(0), RotorRouter.TOO_LARGE);
        CHECK.due("leastCoverTime(8) of 2025", over.leastCoverTime(8), RotorRouter.NO_SUCH_NODE);
        CHECK.due("bestRotor(7, 0) of 2025", over.bestRotor(7, 0), RotorRouter.TOO_LARGE);
        CHECK.due("bestRotor(8, 0) of 2025", over.bestRotor(8, 0), RotorRouter.NO_SUCH_NODE);
        CHECK.due("bestRotor(0, 8) of 2025", over.bestRotor(0, 8), RotorRouter.NO_SUCH_NODE);
    }

    private static void searchAsksForNodes() {
        RotorRouter x = Routers.loaded(PATH);
        int[] nodes = {-1, 3, 8, Integer.MIN_VALUE, Integer.MAX_VALUE};
        for (int node : nodes) {
            CHECK.due("leastCoverTime(" + node + ")", x.leastCoverTime(node), RotorRouter.NO_SUCH_NODE);
            CHECK.due("bestRotor(" + node + ", 0)", x.bestRotor(node, 0), RotorRouter.NO_SUCH_NODE);
            CHECK.due("bestRotor(0, " + node + ")", x.bestRotor(0, node), RotorRouter.NO_SUCH_NODE);
        }
    }

    private static void expectations() {
        expected("2:01", 0, 0, 1, 0.0);
        expected("2:01", 0, 1, 1, 1.0);
        expected("2:01", 0, 1, 0, 0.0);
        expected("2:01", 0, 3, 1, 2.0);
        expected("2:01", 0, 5, 1, 3.0);
        expected("2:01", 0, 50, 0, 25.0);
        expected("3:01,12,20", 0, 2, 0, 0.5);
        expected("3:01,12,20", 0, 2, 1, 0.75);
        expected(PATH, 1, 50, 0, 12.5);
        expected("8:01,12,23,34,45,56,67", 0, 6, 7, 0.0);
        expected("8:01,12,23,34,45,56,67", 0, 7, 7, 0.015625);
        expected(STAR, 7, 1, 0, 1.0 / 7);
        expected("5:40,41,42,43", 0, 50, 4, 25.0);
        expected(STAR, 7, 3, 2, 1.0 / 7 + (1.0 / 7 + 1.0 / 7 + 1.0 / 7 + 1.0 / 7 + 1.0 / 7 + 1.0 / 7 + 1.0 / 7) / 7);
    }

    private static void expected(String text, int start, int steps, int node, double want) {
        long got = Routers.loaded(text).expectedArrivals(start, steps, node);
        String call = "expectedArrivals(" + start + ", " + steps + ", " + node + ") of " + text;
        CHECK.due(call, got, Double.doubleToLongBits(want));
    }

    private static void expectationsAskForNodesAndSteps() {
        RotorRouter x = Routers.loaded(PATH);
        int[] nodes = {-1, 3, 8, Integer.MIN_VALUE, Integer.MAX_VALUE};
        for (int node : nodes) {
            CHECK.due("start " + node, x.expectedArrivals(node, 1, 0), RotorRouter.NO_SUCH_NODE);
            CHECK.due("node " + node, x.expectedArrivals(0, 1, node), RotorRouter.NO_SUCH_NODE);
            CHECK.due("start " + node + ", steps 51", x.expectedArrivals(node, 51, 0), RotorRouter.NO_SUCH_NODE);
            CHECK.due("node " + node + ", steps -1", x.expectedArrivals(0, -1, node), RotorRouter.NO_SUCH_NODE);
        }
        int[] steps = {-1, 51, Integer.MIN_VALUE, Integer.MAX_VALUE};
        for (int number : steps) {
            CHECK.due("steps " + number, x.expectedArrivals(0, number, 0), RotorRouter.OUT_OF_RANGE);
        }
    }

    private static void analysesChangeNothing() {
        RotorRouter x = Routers.loaded("4:01,12,23,30,02");
        x.addWalker(3);
        x.addWalker(1);
        x.step(0, 3);
        x.setRotor(2, 1);
        Routers.type(x, "5:");
        long digest = x.digest();
        for (int walker = 0; walker < 2; walker++) {
            x.stepsToCycle(walker);
            CHECK.due("digest() after stepsToCycle", x.digest(), digest);
            x.coverTime(walker);
            CHECK.due("digest() after coverTime", x.digest(), digest);
        }
        for (int node = 0; node < 4; node++) {
            x.leastCoverTime(node);
            CHECK.due("digest() after leastCoverTime", x.digest(), digest);
            x.bestRotor(node, 0);
            CHECK.due("digest() after bestRotor", x.digest(), digest);
            x.expectedArrivals(node, 9, 0);
            CHECK.due("digest() after expectedArrivals", x.digest(), digest);
        }
    }
}
