/** The four examples of the document's description. */
public final class ExamplesTest {
    private static final Check CHECK = new Check();

    public static void main(String[] args) {
        path();
        inputsThatDoNotLoad();
        triangle();
        errors();
        CHECK.finish();
    }

    private static void typeChecked(RotorRouter x, String text) {
        for (int i = 0; i < text.length(); i++) {
            CHECK.due("append(" + text.charAt(i) + ")", x.append(text.charAt(i)), i + 1);
        }
    }

    private static void path() {
        RotorRouter x = new RotorRouter();
        typeChecked(x, "3:01,12");
        CHECK.due("load()", x.load(), 3);
        CHECK.due("addWalker(0)", x.addWalker(0), 0);
        CHECK.due("step(0, 1)", x.step(0, 1), 1);
        CHECK.due("step(0, 1)", x.step(0, 1), 0);
        CHECK.due("step(0, 2)", x.step(0, 2), 2);
        CHECK.due("rotor(1)", x.rotor(1), 0);
        CHECK.due("arrivals(0)", x.arrivals(0), 1);
        CHECK.due("departures(1, 0)", x.departures(1, 0), 1);
        CHECK.due("stepsToCycle(0)", x.stepsToCycle(0), 0);
    }

    private static void inputsThatDoNotLoad() {
        RotorRouter x = new RotorRouter();
        typeChecked(x, "3:01,10");
        CHECK.due("load()", x.load(), -3);
        CHECK.due("firstError()", x.firstError(), 6);
        CHECK.due("clearInput()", x.clearInput(), 7);
        typeChecked(x, "3:01");
        CHECK.due("load()", x.load(), -3);
        CHECK.due("firstError()", x.firstError(), 4);
    }

    private static void triangle() {
        RotorRouter x = new RotorRouter();
        typeChecked(x, "3:01,12,20");
        CHECK.due("load()", x.load(), 3);
        CHECK.due("leastCoverTime(0)", x.leastCoverTime(0), 2);
        CHECK.due("bestRotor(0, 1)", x.bestRotor(0, 1), 1);
        CHECK.due("addWalker(0)", x.addWalker(0), 0);
        CHECK.due("addWalker(2)", x.addWalker(2), 1);
        CHECK.due("absorb(1, true)", x.absorb(1, true), 2);
    }

    private static void errors() {
        RotorRouter x = new RotorRouter();
        typeChecked(x, "2:01");
        CHECK.due("load()", x.load(), 2);
        CHECK.due("neighbor(0, 1)", x.neighbor(0, 1), -6);
        CHECK.due("neighbor(2, 1)", x.neighbor(2, 1), -4);
        CHECK.due("addWalker(0)", x.addWalker(0), 0);
        CHECK.due("step(0, 1001)", x.step(0, 1001), -6);
        CHECK.due("step(1, 1001)", x.step(1, 1001), -5);
    }
}
