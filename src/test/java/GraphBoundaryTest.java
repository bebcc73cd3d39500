/** The boundary cases of promises 6 to 9 and 24, a test for each sentence. */
public final class GraphBoundaryTest {
    private static final Check CHECK = new Check();

    public static void main(String[] args) {
        CHECK.sentence("Promise 6", "Returns its degree; NO_SUCH_NODE if the node does not exist.",
            GraphBoundaryTest::degreeOfNoNode);
        CHECK.sentence("Promise 7", "Returns the neighbor; NO_SUCH_NODE if the node does not exist (checked first)",
            GraphBoundaryTest::neighborOfNoNode);
        CHECK.sentence("Promise 7", "OUT_OF_RANGE if index is negative or not less than the degree",
            GraphBoundaryTest::neighborOutOfRange);
        CHECK.sentence("Promise 8", "Returns its rotor; NO_SUCH_NODE if the node does not exist.",
            GraphBoundaryTest::rotorOfNoNode);
        CHECK.sentence("Promise 9", "Sets the rotor of a node.", GraphBoundaryTest::rotorAtItsBounds);
        CHECK.sentence("Promise 9", "Returns the previous rotor", GraphBoundaryTest::previousRotor);
        CHECK.sentence("Promise 9",
            "Returns the previous rotor; NO_SUCH_NODE if the node does not exist (checked first)",
            GraphBoundaryTest::setRotorOfNoNode);
        CHECK.sentence("Promise 9", "OUT_OF_RANGE if index is negative or not less than the degree",
            GraphBoundaryTest::setRotorOutOfRange);
        CHECK.sentence("Promise 24", "Returns the number of links, 0 if no graph is loaded.",
            GraphBoundaryTest::linkCounts);
        CHECK.finish();
    }

    private static void degreeOfNoNode() {
        for (int nodes = 2; nodes <= 8; nodes++) {
            RotorRouter x = Routers.loaded(Routers.star(nodes));
            CHECK.due("degree(0)", x.degree(0), 1);
            CHECK.due("degree(" + (nodes - 1) + ")", x.degree(nodes - 1), nodes - 1);
            for (int node : Routers.outside(nodes)) {
                CHECK.due("degree(" + node + ")", x.degree(node), RotorRouter.NO_SUCH_NODE);
            }
        }
    }

    private static void neighborOfNoNode() {
        for (int nodes = 2; nodes <= 8; nodes++) {
            RotorRouter x = Routers.loaded(Routers.star(nodes));
            for (int node : Routers.outside(nodes)) {
                CHECK.due("neighbor(" + node + ", 0)", x.neighbor(node, 0), RotorRouter.NO_SUCH_NODE);
                CHECK.due("neighbor(" + node + ", -1)", x.neighbor(node, -1), RotorRouter.NO_SUCH_NODE);
                CHECK.due("neighbor(" + node + ", 7)", x.neighbor(node, 7), RotorRouter.NO_SUCH_NODE);
            }
        }
    }

    private static void neighborOutOfRange() {
        for (int nodes = 2; nodes <= 8; nodes++) {
            RotorRouter x = Routers.loaded(Routers.star(nodes));
            int center = nodes - 1;
            CHECK.due("neighbor, the first", x.neighbor(center, 0), 0);
            CHECK.due("neighbor, the last", x.neighbor(center, center - 1), center - 1);
            for (int index : Routers.outside(center)) {
                CHECK.due("neighbor of the center, " + index, x.neighbor(center, index), RotorRouter.OUT_OF_RANGE);
            }
            CHECK.due("neighbor of a ray, 0", x.neighbor(0, 0), center);
            CHECK.due("neighbor of a ray, 1", x.neighbor(0, 1), RotorRouter.OUT_OF_RANGE);
            CHECK.due("neighbor of a ray, -1", x.neighbor(0, -1), RotorRouter.OUT_OF_RANGE);
        }
    }

    private static void rotorOfNoNode() {
        for (int nodes = 2; nodes <= 8; nodes++) {
            RotorRouter x = Routers.loaded(Routers.star(nodes));
            CHECK.due("rotor(0)", x.rotor(0), 0);
            CHECK.due("rotor(" + (nodes - 1) + ")", x.rotor(nodes - 1), 0);
            for (int node : Routers.outside(nodes)) {
                CHECK.due("rotor(" + node + ")", x.rotor(node), RotorRouter.NO_SUCH_NODE);
            }
        }
    }

    private static void rotorAtItsBounds() {
        for (int nodes = 2; nodes <= 8; nodes++) {
            RotorRouter x = Routers.loaded(Routers.star(nodes));
            int center = nodes - 1;
            x.addWalker(center);
            x.setRotor(center, center - 1);
            CHECK.due("rotor, the last", x.rotor(center), center - 1);
            for (int node = 0; node < center; node++) {
                CHECK.due("rotor(" + node + ")", x.rotor(node), 0);
            }
            CHECK.due("step(0, 1)", x.step(0, 1), center - 1);
            x.setRotor(center, center - 1);
            x.setRotor(center, 0);
            CHECK.due("rotor, the first", x.rotor(center), 0);
        }
    }

    private static void previousRotor() {
        RotorRouter x = Routers.loaded(Routers.star(8));
        int previous = 0;
        for (int index : new int[] {6, 0, 0, 1, 6, 6, 3}) {
            CHECK.due("setRotor(7, " + index + ")", x.setRotor(7, index), previous);
            previous = index;
        }
        CHECK.due("setRotor(0, 0)", x.setRotor(0, 0), 0);
        x.addWalker(7);
        x.setRotor(7, 6);
        x.step(0, 1);
        CHECK.due("setRotor(7, 2) behind a rotor that turned to 0", x.setRotor(7, 2), 0);
    }

    private static void setRotorOfNoNode() {
        for (int nodes = 2; nodes <= 8; nodes++) {
            RotorRouter x = Routers.loaded(Routers.star(nodes));
            for (int node : Routers.outside(nodes)) {
                CHECK.due("setRotor(" + node + ", 0)", x.setRotor(node, 0), RotorRouter.NO_SUCH_NODE);
                CHECK.due("setRotor(" + node + ", -1)", x.setRotor(node, -1), RotorRouter.NO_SUCH_NODE);
                CHECK.due("setRotor(" + node + ", 7)", x.setRotor(node, 7), RotorRouter.NO_SUCH_NODE);
            }
        }
    }

    private static void setRotorOutOfRange() {
        for (int nodes = 2; nodes <= 8; nodes++) {
            RotorRouter x = Routers.loaded(Routers.star(nodes));
            int center = nodes - 1;
            CHECK.due("setRotor, the last", x.setRotor(center, center - 1), 0);
            for (int index : Routers.outside(center)) {
                CHECK.due("setRotor, " + index, x.setRotor(center, index), RotorRouter.OUT_OF_RANGE);
                CHECK.due("rotor of the center", x.rotor(center), center - 1);
            }
            CHECK.due("setRotor of a ray, 1", x.setRotor(0, 1), RotorRouter.OUT_OF_RANGE);
            CHECK.due("setRotor of a ray, -1", x.setRotor(0, -1), RotorRouter.OUT_OF_RANGE);
        }
    }

    private static void linkCounts() {
        RotorRouter x = new RotorRouter();
        CHECK.due("linkCount() of a new object", x.linkCount(), 0);
        Routers.type(x, "3:01");
        CHECK.due("linkCount() of what is typed", x.linkCount(), 0);
        x.load();
        CHECK.due("linkCount() after a refused load()", x.linkCount(), 0);
        x.clearInput();
        Routers.type(x, "2:01");
        x.load();
        CHECK.due("linkCount() of one", x.linkCount(), 1);
        Routers.type(x, Routers.CUBE);
        CHECK.due("linkCount() of what is typed", x.linkCount(), 1);
        x.load();
        CHECK.due("linkCount() of twelve", x.linkCount(), 12);
        Routers.type(x, "4:01,23");
        x.load();
        CHECK.due("linkCount() after a refused load()", x.linkCount(), 12);
    }
}
