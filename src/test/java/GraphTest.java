/** Promises 6 to 9: degree, neighbor, rotor, setRotor; and 24: linkCount. */
public final class GraphTest {
    private static final Check CHECK = new Check();
    private static final int[] NO_NODES = {-1, 5, 8, 9, Integer.MIN_VALUE, Integer.MAX_VALUE};

    public static void main(String[] args) {
        orderOfNeighbors();
        star();
        nodesThatDoNotExist();
        indexesOutOfRange();
        rotorsThatAreSet();
        linkCounts();
        CHECK.finish();
    }

    private static void orderOfNeighbors() {
        RotorRouter x = Routers.loaded("5:42,10,03,21,40,31");
        int[][] neighbors = {{1, 3, 4}, {0, 2, 3}, {4, 1}, {0, 1}, {2, 0}};
        for (int node = 0; node < 5; node++) {
            CHECK.due("degree(" + node + ")", x.degree(node), neighbors[node].length);
            CHECK.due("rotor(" + node + ")", x.rotor(node), 0);
            for (int index = 0; index < neighbors[node].length; index++) {
                CHECK.due("neighbor(" + node + ", " + index + ")", x.neighbor(node, index), neighbors[node][index]);
            }
        }
    }

    private static void star() {
        RotorRouter x = Routers.loaded("8:70,71,72,73,74,75,76");
        CHECK.due("degree(7)", x.degree(7), 7);
        for (int node = 0; node < 7; node++) {
            CHECK.due("degree of a ray", x.degree(node), 1);
            CHECK.due("neighbor of the center", x.neighbor(7, node), node);
            CHECK.due("neighbor of a ray", x.neighbor(node, 0), 7);
        }
        CHECK.due("neighbor(7, 7)", x.neighbor(7, 7), RotorRouter.OUT_OF_RANGE);
        CHECK.due("setRotor(7, 6)", x.setRotor(7, 6), 0);
        CHECK.due("setRotor(7, 7)", x.setRotor(7, 7), RotorRouter.OUT_OF_RANGE);
        CHECK.due("rotor(7)", x.rotor(7), 6);
    }

    private static void nodesThatDoNotExist() {
        RotorRouter x = Routers.loaded("5:42,10,03,21,40,31");
        for (int node : NO_NODES) {
            CHECK.due("degree(" + node + ")", x.degree(node), RotorRouter.NO_SUCH_NODE);
            CHECK.due("rotor(" + node + ")", x.rotor(node), RotorRouter.NO_SUCH_NODE);
            CHECK.due("neighbor(" + node + ", 0)", x.neighbor(node, 0), RotorRouter.NO_SUCH_NODE);
            CHECK.due("neighbor(" + node + ", -1)", x.neighbor(node, -1), RotorRouter.NO_SUCH_NODE);
            CHECK.due("setRotor(" + node + ", 0)", x.setRotor(node, 0), RotorRouter.NO_SUCH_NODE);
            CHECK.due("setRotor(" + node + ", 7)", x.setRotor(node, 7), RotorRouter.NO_SUCH_NODE);
        }
    }

    private static void indexesOutOfRange() {
        RotorRouter x = Routers.loaded("5:42,10,03,21,40,31");
        long digest = x.digest();
        int[] indexes = {-1, 3, 7, Integer.MIN_VALUE, Integer.MAX_VALUE};
        for (int index : indexes) {
            CHECK.due("neighbor(0, " + index + ")", x.neighbor(0, index), RotorRouter.OUT_OF_RANGE);
            CHECK.due("setRotor(0, " + index + ")", x.setRotor(0, index), RotorRouter.OUT_OF_RANGE);
        }
        CHECK.due("neighbor(4, 2)", x.neighbor(4, 2), RotorRouter.OUT_OF_RANGE);
        CHECK.due("setRotor(4, 2)", x.setRotor(4, 2), RotorRouter.OUT_OF_RANGE);
        CHECK.due("digest() after errors", x.digest(), digest);
    }

    private static void rotorsThatAreSet() {
        RotorRouter x = Routers.loaded("5:42,10,03,21,40,31");
        CHECK.due("setRotor(0, 2)", x.setRotor(0, 2), 0);
        CHECK.due("rotor(0)", x.rotor(0), 2);
        CHECK.due("setRotor(0, 1)", x.setRotor(0, 1), 2);
        CHECK.due("setRotor(0, 1) again", x.setRotor(0, 1), 1);
        CHECK.due("setRotor(4, 1)", x.setRotor(4, 1), 0);
        CHECK.due("rotor(0)", x.rotor(0), 1);
        CHECK.due("rotor(1)", x.rotor(1), 0);
        CHECK.due("rotor(4)", x.rotor(4), 1);
        CHECK.due("neighbor(0, 0) stays", x.neighbor(0, 0), 1);
        CHECK.due("setRotor(0, 0)", x.setRotor(0, 0), 1);
        CHECK.due("rotor(0)", x.rotor(0), 0);
    }

    private static void linkCounts() {
        RotorRouter x = new RotorRouter();
        Routers.type(x, "2:01");
        CHECK.due("linkCount() before load()", x.linkCount(), 0);
        x.load();
        CHECK.due("linkCount() of 2:01", x.linkCount(), 1);
        Routers.type(x, "6:01,02,03,04,05,12,13,14,15,23,24,25");
        CHECK.due("linkCount() still", x.linkCount(), 1);
        x.load();
        CHECK.due("linkCount() of twelve", x.linkCount(), 12);
    }
}
