/** Promises 16 to 20, stepsToCycle, coverTime, leastCoverTime, bestRotor and expectedArrivals: ordinary graphs. */
public final class AnalysisTest {
    private static final Check CHECK = new Check();

    public static void main(String[] args) {
        stepsToCycleOnPath();
        coverTimeOnPath();
        coverTimeOnStar();
        leastCoverTimes();
        bestRotorsOfSeveral();
        mostAssignments();
        expectations();
        CHECK.finish();
    }

    private static void stepsToCycleOnPath() {
        RotorRouter two = Routers.loaded(Routers.PATH);
        two.addWalker(2);
        two.addWalker(0);
        CHECK.due("stepsToCycle(0) of two", two.stepsToCycle(0), 0);
        CHECK.due("stepsToCycle(1) of two", two.stepsToCycle(1), 1);
    }

    private static void coverTimeOnPath() {
        int[][] cases = {{0, 0, 4}, {0, 1, 2}, {1, 0, 3}, {1, 1, 3}, {2, 0, 2}, {2, 1, 4}};
        for (int[] c : cases) {
            RotorRouter x = Routers.loaded(Routers.PATH);
            x.addWalker(c[0]);
            x.setRotor(1, c[1]);
            CHECK.due("coverTime(0) at " + c[0] + " with " + c[1], x.coverTime(0), c[2]);
        }
        RotorRouter walked = Routers.loaded(Routers.PATH);
        walked.addWalker(0);
        walked.step(0, 4);
        CHECK.due("coverTime(0) forgets earlier steps", walked.coverTime(0), 2);
    }

    private static void coverTimeOnStar() {
        RotorRouter x = Routers.loaded(Routers.star(8));
        x.addWalker(7);
        x.addWalker(3);
        CHECK.due("coverTime(0) from the center", x.coverTime(0), 13);
        CHECK.due("coverTime(1) from a ray", x.coverTime(1), 14);
        x.setRotor(7, 4);
        CHECK.due("coverTime(1) past its own ray", x.coverTime(1), 12);
    }

    private static void leastCoverTimes() {
        leastCoverTime("2:01", 0, 1);
        leastCoverTime("2:01", 1, 1);
        leastCoverTime(Routers.PATH, 0, 2);
        leastCoverTime(Routers.PATH, 1, 3);
        leastCoverTime(Routers.PATH, 2, 2);
        leastCoverTime(Routers.TRIANGLE, 0, 2);
        leastCoverTime(Routers.star(8), 7, 13);
        leastCoverTime(Routers.star(8), 0, 12);
        leastCoverTime(Routers.path(8), 0, 7);
        leastCoverTime(Routers.path(8), 7, 7);
        leastCoverTime(Routers.path(8), 1, 8);
    }

    private static void leastCoverTime(String text, int start, int want) {
        CHECK.due("leastCoverTime(" + start + ") of " + text, Routers.loaded(text).leastCoverTime(start), want);
    }

    private static void bestRotorsOfSeveral() {
        RotorRouter path = Routers.loaded(Routers.PATH);
        CHECK.due("bestRotor(0, 1) of a path", path.bestRotor(0, 1), 1);
        CHECK.due("bestRotor(2, 1) of a path", path.bestRotor(2, 1), 0);
        CHECK.due("bestRotor(1, 1) of a path", path.bestRotor(1, 1), 0);
        RotorRouter star = Routers.loaded(Routers.star(8));
        CHECK.due("bestRotor(7, 7) of a star", star.bestRotor(7, 7), 0);
        CHECK.due("bestRotor(0, 7) of a star", star.bestRotor(0, 7), 1);
        CHECK.due("bestRotor(5, 7) of a star", star.bestRotor(5, 7), 6);
        CHECK.due("bestRotor(6, 7) of a star", star.bestRotor(6, 7), 0);
        CHECK.due("bestRotor(6, 6) of a star", star.bestRotor(6, 6), 0);
        // From 0 the triangle is covered by 0, 1, 2 with rotors 0 1 x and by 0, 2, 1 with 1 x 0.
        RotorRouter triangle = Routers.loaded(Routers.TRIANGLE);
        CHECK.due("bestRotor(0, 0) of a triangle", triangle.bestRotor(0, 0), 0);
        CHECK.due("bestRotor(0, 1) of a triangle", triangle.bestRotor(0, 1), 1);
        CHECK.due("bestRotor(0, 2) of a triangle", triangle.bestRotor(0, 2), 0);
        // From 2 it is covered by 2, 1, 0 with rotors x 0 0 and by 2, 0, 1 with 0 x 1.
        CHECK.due("bestRotor(2, 0) of a triangle", triangle.bestRotor(2, 0), 0);
        CHECK.due("bestRotor(2, 1) of a triangle", triangle.bestRotor(2, 1), 0);
        CHECK.due("bestRotor(2, 2) of a triangle", triangle.bestRotor(2, 2), 0);
        triangle.setRotor(1, 1);
        CHECK.due("leastCoverTime(2) whatever the rotors", triangle.leastCoverTime(2), 2);
        CHECK.due("bestRotor(2, 1) whatever the rotors", triangle.bestRotor(2, 1), 0);
    }

    private static void mostAssignments() {
        RotorRouter most = Routers.loaded(Routers.ASSIGNMENTS_2000);
        Model model = new Model();
        model.typeAndLoad(Routers.ASSIGNMENTS_2000);
        for (int start = 0; start < 8; start++) {
            CHECK.due("leastCoverTime of 2000", most.leastCoverTime(start), model.leastCoverTime(start));
            for (int node = 0; node < 8; node++) {
                CHECK.due("bestRotor of 2000", most.bestRotor(start, node), model.bestRotor(start, node));
            }
        }
    }

    private static void expectations() {
        expected("2:01", 0, 0, 1, 0.0);
        expected("2:01", 0, 1, 1, 1.0);
        expected("2:01", 0, 1, 0, 0.0);
        expected("2:01", 0, 3, 1, 2.0);
        expected("2:01", 0, 5, 1, 3.0);
        expected("2:01", 0, 50, 0, 25.0);
        expected(Routers.TRIANGLE, 0, 2, 0, 0.5);
        expected(Routers.TRIANGLE, 0, 2, 1, 0.75);
        expected(Routers.PATH, 1, 50, 0, 12.5);
        expected(Routers.path(8), 0, 6, 7, 0.0);
        expected(Routers.path(8), 0, 7, 7, 0.015625);
        expected(Routers.star(8), 7, 1, 0, 1.0 / 7);
        expected("5:40,41,42,43", 0, 50, 4, 25.0);
        double ray = 1.0 / 7;
        expected(Routers.star(8), 7, 3, 2, ray + (ray + ray + ray + ray + ray + ray + ray) / 7);
    }

    private static void expected(String text, int start, int steps, int node, double want) {
        long got = Routers.loaded(text).expectedArrivals(start, steps, node);
        String call = "expectedArrivals(" + start + ", " + steps + ", " + node + ") of " + text;
        CHECK.due(call, got, Double.doubleToLongBits(want));
    }
}
