/** Promises 6 to 9, degree, neighbor, rotor and setRotor: ordinary graphs. */
public final class GraphTest {
    private static final Check CHECK = new Check();

    public static void main(String[] args) {
        orderOfNeighbors();
        star();
        rotorsThatAreSet();
        CHECK.finish();
    }

    private static void orderOfNeighbors() {
        RotorRouter x = Routers.loaded("5:42,10,03,21,40,31");
        int[][] neighbors = {{1, 3, 4}, {0, 2, 3}, {4, 1}, {0, 1}, {2, 0}};
        for (int node = 0; node < 5; node++) {
            CHECK.due("degree(" + node + ")", x.degree(node), neighbors[node].length);
            CHECK.due("rotor(" + node + ")", x.rotor(node), 0);
            for (int index = 0; index < neighbors[node].length; index++) {
                CHECK.due("neighbor(" + node + ", " + index + ")", x.neighbor(node, index), neighbors[node][index]);
            }
        }
    }

    private static void star() {
        RotorRouter x = Routers.loaded(Routers.star(8));
        CHECK.due("degree(7)", x.degree(7), 7);
        for (int node = 0; node < 7; node++) {
            CHECK.due("degree of a ray", x.degree(node), 1);
            CHECK.due("neighbor of the center", x.neighbor(7, node), node);
            CHECK.due("neighbor of a ray", x.neighbor(node, 0), 7);
        }
        CHECK.due("neighbor(7, 7)", x.neighbor(7, 7), RotorRouter.OUT_OF_RANGE);
        CHECK.due("setRotor(7, 6)", x.setRotor(7, 6), 0);
        CHECK.due("setRotor(7, 7)", x.setRotor(7, 7), RotorRouter.OUT_OF_RANGE);
        CHECK.due("rotor(7)", x.rotor(7), 6);
    }

    private static void rotorsThatAreSet() {
        RotorRouter x = Routers.loaded("5:42,10,03,21,40,31");
        CHECK.due("setRotor(0, 2)", x.setRotor(0, 2), 0);
        CHECK.due("rotor(0)", x.rotor(0), 2);
        CHECK.due("setRotor(0, 1)", x.setRotor(0, 1), 2);
        CHECK.due("setRotor(0, 1) again", x.setRotor(0, 1), 1);
        CHECK.due("setRotor(4, 1)", x.setRotor(4, 1), 0);
        CHECK.due("rotor(0)", x.rotor(0), 1);
        CHECK.due("rotor(1)", x.rotor(1), 0);
        CHECK.due("rotor(4)", x.rotor(4), 1);
        CHECK.due("neighbor(0, 0) stays", x.neighbor(0, 0), 1);
        CHECK.due("setRotor(0, 0)", x.setRotor(0, 0), 1);
        CHECK.due("rotor(0)", x.rotor(0), 0);
    }
}
