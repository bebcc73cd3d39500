/** What the description says of errors: each method with each of its error codes, and before a graph is loaded. */
public final class ErrorBoundaryTest {
    private static final Check CHECK = new Check();
    private static final String FULL = Routers.CUBE + ",02";

    private interface Call {
        long on(RotorRouter x);
    }

    private interface Maker {
        RotorRouter make();
    }

    public static void main(String[] args) {
        changesNothing(ErrorBoundaryTest::errorsOfAppend);
        changesNothing(ErrorBoundaryTest::errorsOfLoad);
        changesNothing(ErrorBoundaryTest::nodesThatDoNotExist);
        changesNothing(ErrorBoundaryTest::indexesOutOfRange);
        changesNothing(ErrorBoundaryTest::walkersThatDoNotExist);
        changesNothing(ErrorBoundaryTest::stepsOutOfRange);
        changesNothing(ErrorBoundaryTest::fifthWalker);
        changesNothing(ErrorBoundaryTest::tooManyAssignments);
        changesNothing(ErrorBoundaryTest::randomStepsOutOfRange);
        changesNothing(ErrorBoundaryTest::errorsOfSnapshot);
        CHECK.sentence("Errors", "Before a graph has been loaded, no node exists",
            ErrorBoundaryTest::noNodeBeforeLoad);
        CHECK.sentence("Errors", "Before a graph has been loaded, [..] there are no walkers.",
            ErrorBoundaryTest::noWalkerBeforeLoad);
        CHECK.finish();
    }

    private static void changesNothing(Runnable errors) {
        CHECK.sentence("Errors", "A method that returns an error code changes nothing.", errors);
    }

    private static void errorsOfAppend() {
        for (int code : new int[] {31, 127, -1, 256 + '2'}) {
            error("append(" + code + ")", () -> ready("2:0"), x -> x.append(code), RotorRouter.BAD_CHARACTER);
        }
        error("append(44) to 40", () -> ready(FULL), x -> x.append(','), RotorRouter.BUFFER_FULL);
        error("append(31) to 40", () -> ready(FULL), x -> x.append(31), RotorRouter.BAD_CHARACTER);
    }

    private static void errorsOfLoad() {
        for (String text : new String[] {"", "2", "2:", "2:0", "2:01,", "2:01,10", "4:01,23", "4:01,12,20", FULL}) {
            error("load() of " + text, () -> ready(text), RotorRouter::load, RotorRouter.INVALID_INPUT);
            error("load() of " + text, () -> Routers.typed(text), RotorRouter::load, RotorRouter.INVALID_INPUT);
        }
    }

    private static void nodesThatDoNotExist() {
        for (int node : Routers.outside(4)) {
            noNode("degree(" + node + ")", x -> x.degree(node));
            noNode("neighbor(" + node + ", 0)", x -> x.neighbor(node, 0));
            noNode("rotor(" + node + ")", x -> x.rotor(node));
            noNode("setRotor(" + node + ", 1)", x -> x.setRotor(node, 1));
            noNode("addWalker(" + node + ")", x -> x.addWalker(node));
            noNode("absorb(" + node + ", false)", x -> x.absorb(node, false));
            noNode("absorb(" + node + ", true)", x -> x.absorb(node, true));
            noNode("arrivals(" + node + ")", x -> x.arrivals(node));
            noNode("departures(" + node + ", 0)", x -> x.departures(node, 0));
            noNode("leastCoverTime(" + node + ")", x -> x.leastCoverTime(node));
            noNode("bestRotor(" + node + ", 0)", x -> x.bestRotor(node, 0));
            noNode("bestRotor(0, " + node + ")", x -> x.bestRotor(0, node));
            noNode("expectedArrivals(" + node + ", 1, 0)", x -> x.expectedArrivals(node, 1, 0));
            noNode("expectedArrivals(0, 1, " + node + ")", x -> x.expectedArrivals(0, 1, node));
        }
    }

    private static void noNode(String call, Call made) {
        error(call, () -> ready("2:01"), made, RotorRouter.NO_SUCH_NODE);
    }

    private static void indexesOutOfRange() {
        Maker ready = () -> ready("2:01");
        for (int index : Routers.outside(3)) {
            error("neighbor(2, " + index + ")", ready, x -> x.neighbor(2, index), RotorRouter.OUT_OF_RANGE);
            error("setRotor(2, " + index + ")", ready, x -> x.setRotor(2, index), RotorRouter.OUT_OF_RANGE);
            error("departures(2, " + index + ")", ready, x -> x.departures(2, index), RotorRouter.OUT_OF_RANGE);
        }
    }

    private static void walkersThatDoNotExist() {
        Maker ready = () -> ready("2:01");
        for (int walker : Routers.outside(3)) {
            error("position(" + walker + ")", ready, x -> x.position(walker), RotorRouter.NO_SUCH_WALKER);
            error("step(" + walker + ", 1)", ready, x -> x.step(walker, 1), RotorRouter.NO_SUCH_WALKER);
            error("stepsToCycle(" + walker + ")", ready, x -> x.stepsToCycle(walker), RotorRouter.NO_SUCH_WALKER);
            error("coverTime(" + walker + ")", ready, x -> x.coverTime(walker), RotorRouter.NO_SUCH_WALKER);
        }
    }

    private static void stepsOutOfRange() {
        for (int steps : new int[] {0, -1, 1001, Integer.MIN_VALUE, Integer.MAX_VALUE}) {
            error("step(1, " + steps + ")", () -> ready("2:01"), x -> x.step(1, steps), RotorRouter.OUT_OF_RANGE);
        }
    }

    private static void fifthWalker() {
        Maker crowd = () -> Routers.busy(Routers.SQUARE, 4, "2:01");
        error("addWalker(0)", crowd, x -> x.addWalker(0), RotorRouter.TOO_MANY_WALKERS);
        error("addWalker(3)", crowd, x -> x.addWalker(3), RotorRouter.TOO_MANY_WALKERS);
    }

    private static void tooManyAssignments() {
        Maker large = () -> Routers.busy(Routers.ASSIGNMENTS_2016, 3, "2:01");
        error("leastCoverTime(0)", large, x -> x.leastCoverTime(0), RotorRouter.TOO_LARGE);
        error("bestRotor(0, 7)", large, x -> x.bestRotor(0, 7), RotorRouter.TOO_LARGE);
    }

    private static void randomStepsOutOfRange() {
        for (int steps : new int[] {-1, 51, Integer.MIN_VALUE, Integer.MAX_VALUE}) {
            error("expectedArrivals(0, " + steps + ", 1)", () -> ready("2:01"),
                x -> x.expectedArrivals(0, steps, 1), RotorRouter.OUT_OF_RANGE);
        }
    }

    private static void errorsOfSnapshot() {
        Maker typed = () -> Routers.typed("2:01");
        error("snapshot() without a graph", typed, RotorRouter::snapshot, RotorRouter.NO_SNAPSHOT);
        error("restore() without a graph", typed, RotorRouter::restore, RotorRouter.NO_SNAPSHOT);
        Maker unkept = () -> {
            RotorRouter x = Routers.loaded(Routers.SQUARE);
            x.addWalker(1);
            x.step(0, 6);
            x.setRotor(1, 1);
            Routers.type(x, "2:01");
            return x;
        };
        error("restore() without a snapshot", unkept, RotorRouter::restore, RotorRouter.NO_SNAPSHOT);
    }

    private static RotorRouter ready(String input) {
        return Routers.busy(Routers.SQUARE, 3, input);
    }

    /** A twin that did not make the call has to be like the object that did, its snapshot and its input too. */
    private static void error(String call, Maker maker, Call made, int want) {
        RotorRouter x = maker.make();
        RotorRouter twin = maker.make();
        CHECK.due(call, made.on(x), want);
        CHECK.same(call + ", and then", Routers.seen(x), Routers.seen(twin));
        CHECK.due(call + ", then restore()", x.restore(), twin.restore());
        CHECK.same(call + ", then restore(), and then", Routers.seen(x), Routers.seen(twin));
        CHECK.due(call + ", then clearInput()", x.clearInput(), twin.clearInput());
    }

    private static RotorRouter[] withoutGraph() {
        RotorRouter refused = Routers.typed("3:01");
        refused.load();
        RotorRouter cleared = Routers.typed("3:01,12");
        cleared.clearInput();
        return new RotorRouter[] {new RotorRouter(), Routers.typed("3:01,12"), refused, cleared};
    }

    private static void noNodeBeforeLoad() {
        for (RotorRouter x : withoutGraph()) {
            for (int node : new int[] {0, 1, 7, -1, 8}) {
                CHECK.due("degree", x.degree(node), RotorRouter.NO_SUCH_NODE);
                CHECK.due("neighbor", x.neighbor(node, 0), RotorRouter.NO_SUCH_NODE);
                CHECK.due("rotor", x.rotor(node), RotorRouter.NO_SUCH_NODE);
                CHECK.due("setRotor", x.setRotor(node, 0), RotorRouter.NO_SUCH_NODE);
                CHECK.due("addWalker", x.addWalker(node), RotorRouter.NO_SUCH_NODE);
                CHECK.due("absorb, one by one", x.absorb(node, false), RotorRouter.NO_SUCH_NODE);
                CHECK.due("absorb, in turns", x.absorb(node, true), RotorRouter.NO_SUCH_NODE);
                CHECK.due("arrivals", x.arrivals(node), RotorRouter.NO_SUCH_NODE);
                CHECK.due("departures", x.departures(node, 0), RotorRouter.NO_SUCH_NODE);
                CHECK.due("leastCoverTime", x.leastCoverTime(node), RotorRouter.NO_SUCH_NODE);
                CHECK.due("bestRotor", x.bestRotor(node, node), RotorRouter.NO_SUCH_NODE);
                CHECK.due("expectedArrivals", x.expectedArrivals(node, 0, node), RotorRouter.NO_SUCH_NODE);
            }
        }
    }

    private static void noWalkerBeforeLoad() {
        for (RotorRouter x : withoutGraph()) {
            for (int walker : new int[] {0, 3, -1, 4}) {
                CHECK.due("position", x.position(walker), RotorRouter.NO_SUCH_WALKER);
                CHECK.due("step", x.step(walker, 1), RotorRouter.NO_SUCH_WALKER);
                CHECK.due("stepsToCycle", x.stepsToCycle(walker), RotorRouter.NO_SUCH_WALKER);
                CHECK.due("coverTime", x.coverTime(walker), RotorRouter.NO_SUCH_WALKER);
            }
            CHECK.due("walkerCount()", x.walkerCount(), 0);
        }
    }
}
