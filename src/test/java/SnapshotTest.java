/** Promises 21, 22 and 25, snapshot, restore and digest: ordinary runs. */
public final class SnapshotTest {
    private static final Check CHECK = new Check();

    public static void main(String[] args) {
        restoreBringsAllBack();
        digestOfGraph();
        digestOfMostAssignments();
        CHECK.finish();
    }

    private static void restoreBringsAllBack() {
        RotorRouter x = Routers.loaded(Routers.SQUARE);
        CHECK.due("restore() before snapshot()", x.restore(), RotorRouter.NO_SNAPSHOT);
        x.addWalker(0);
        x.addWalker(3);
        x.step(0, 5);
        x.setRotor(3, 1);
        long digest = x.digest();
        CHECK.due("snapshot()", x.snapshot(), 2);
        CHECK.due("digest() after snapshot()", x.digest(), digest);
        for (int round = 0; round < 2; round++) {
            x.step(0, 7);
            x.step(1, 2);
            x.setRotor(0, 1);
            x.absorb(2, true);
            CHECK.holds("digest() differs", x.digest() != digest);
            CHECK.due("restore()", x.restore(), 2);
            CHECK.due("digest() after restore()", x.digest(), digest);
        }
        CHECK.due("restore() at once again", x.restore(), 2);
        CHECK.due("digest() after it", x.digest(), digest);
    }

    private static void digestOfGraph() {
        RotorRouter x = Routers.loaded("2:01");
        long four = Double.doubleToLongBits(4.0);
        CHECK.due("digest()", x.digest(), Check.hash(2, 1, 1, 0, 0, 1, 0, 1, 0, 0, 0, 0, 0, 1, four, 0));
        x.append('9');
        CHECK.due("digest()", x.digest(), Check.hash(2, 1, 1, 0, 0, 1, 0, 1, 0, 0, 0, 0, 0, 1, four, 1, 57));
    }

    private static void digestOfMostAssignments() {
        Model model = new Model();
        model.typeAndLoad(Routers.ASSIGNMENTS_2000);
        CHECK.due("digest() of 2000 assignments", Routers.loaded(Routers.ASSIGNMENTS_2000).digest(), model.digest());
    }
}
