/** Promises 1 to 5: a new object, append, clearInput, firstError, load. */
public final class InputTest {
    private static final Check CHECK = new Check();
    private static final String CUBE = "8:01,12,23,34,45,56,67,70,04,15,26,37";

    public static void main(String[] args) {
        newObject();
        appendedCodes();
        fullBuffer();
        clearedBuffer();
        syntaxErrors();
        wrongCharacterAtEachIndex();
        inputsThatLoad();
        inputsThatDoNotLoad();
        failedLoadChangesNothing();
        loadDiscards();
        CHECK.finish();
    }

    private static void newObject() {
        RotorRouter x = new RotorRouter();
        CHECK.due("new: linkCount()", x.linkCount(), 0);
        CHECK.due("new: walkerCount()", x.walkerCount(), 0);
        CHECK.due("new: firstError()", x.firstError(), 0);
        CHECK.due("new: clearInput()", x.clearInput(), 0);
        CHECK.due("new: load()", x.load(), RotorRouter.INVALID_INPUT);
        CHECK.due("new: degree(0)", x.degree(0), RotorRouter.NO_SUCH_NODE);
        CHECK.due("new: neighbor(0, 0)", x.neighbor(0, 0), RotorRouter.NO_SUCH_NODE);
        CHECK.due("new: rotor(0)", x.rotor(0), RotorRouter.NO_SUCH_NODE);
        CHECK.due("new: setRotor(0, 0)", x.setRotor(0, 0), RotorRouter.NO_SUCH_NODE);
        CHECK.due("new: addWalker(0)", x.addWalker(0), RotorRouter.NO_SUCH_NODE);
        CHECK.due("new: position(0)", x.position(0), RotorRouter.NO_SUCH_WALKER);
        CHECK.due("new: step(0, 1)", x.step(0, 1), RotorRouter.NO_SUCH_WALKER);
        CHECK.due("new: absorb(0, false)", x.absorb(0, false), RotorRouter.NO_SUCH_NODE);
        CHECK.due("new: arrivals(0)", x.arrivals(0), RotorRouter.NO_SUCH_NODE);
        CHECK.due("new: departures(0, 0)", x.departures(0, 0), RotorRouter.NO_SUCH_NODE);
        CHECK.due("new: stepsToCycle(0)", x.stepsToCycle(0), RotorRouter.NO_SUCH_WALKER);
        CHECK.due("new: coverTime(0)", x.coverTime(0), RotorRouter.NO_SUCH_WALKER);
        CHECK.due("new: leastCoverTime(0)", x.leastCoverTime(0), RotorRouter.NO_SUCH_NODE);
        CHECK.due("new: bestRotor(0, 0)", x.bestRotor(0, 0), RotorRouter.NO_SUCH_NODE);
        CHECK.due("new: expectedArrivals(0, 1, 0)", x.expectedArrivals(0, 1, 0), RotorRouter.NO_SUCH_NODE);
        CHECK.due("new: snapshot()", x.snapshot(), RotorRouter.NO_SNAPSHOT);
        CHECK.due("new: restore()", x.restore(), RotorRouter.NO_SNAPSHOT);
    }

    private static void appendedCodes() {
        RotorRouter x = new RotorRouter();
        int[] bad = {31, 127, 0, -1, 10, 256 + 48, 65536 + 48, Integer.MIN_VALUE, Integer.MAX_VALUE};
        for (int code : bad) {
            CHECK.due("append(" + code + ")", x.append(code), RotorRouter.BAD_CHARACTER);
        }
        CHECK.due("append(32)", x.append(32), 1);
        CHECK.due("append(126)", x.append(126), 2);
        CHECK.due("append(31)", x.append(31), RotorRouter.BAD_CHARACTER);
        CHECK.due("append(33)", x.append(33), 3);
    }

    private static void fullBuffer() {
        RotorRouter x = new RotorRouter();
        for (int length = 1; length <= 40; length++) {
            CHECK.due("append, to " + length, x.append('0'), length);
        }
        long digest = x.digest();
        CHECK.due("append to 40", x.append('0'), RotorRouter.BUFFER_FULL);
        CHECK.due("append(31) to 40", x.append(31), RotorRouter.BAD_CHARACTER);
        CHECK.due("append(127) to 40", x.append(127), RotorRouter.BAD_CHARACTER);
        CHECK.due("digest() after it", x.digest(), digest);
        CHECK.due("clearInput() of 40", x.clearInput(), 40);
        CHECK.due("append after it", x.append('0'), 1);
    }

    private static void clearedBuffer() {
        RotorRouter x = new RotorRouter();
        Routers.type(x, "9x");
        CHECK.due("clearInput()", x.clearInput(), 2);
        CHECK.due("clearInput() again", x.clearInput(), 0);
        Routers.type(x, "2:0");
        CHECK.due("firstError() of what came after", x.firstError(), 3);
    }

    private static void syntaxErrors() {
        firstError("", 0);
        firstError("1", 0);
        firstError("9", 0);
        firstError(":", 0);
        firstError("2", 1);
        firstError("8", 1);
        firstError("3;", 1);
        firstError("33", 1);
        firstError("3:", 2);
        firstError("3:3", 2);
        firstError("3:2", 3);
        firstError("3:,", 2);
        firstError("3:/", 2);
        firstError("3::", 2);
        firstError("3:03", 3);
        firstError("3:00", 3);
        firstError("3:0,", 3);
        firstError("3:0/", 3);
        firstError("3:01;", 4);
        firstError("3:011", 4);
        firstError("3:01,", 5);
        firstError("3:01,01", 6);
        firstError("3:01,10", 6);
        firstError("3:01,12,10", 9);
        firstError("3:01,12,21", 9);
        firstError("3:01,12,20,", 11);
        firstError("3:01,12,20,0", 12);
        firstError("3:01,12,20,02", 12);
        firstError("2:01,0", 6);
        firstError("2:01,01", 6);
        firstError("8:07,70", 6);
        firstError("8:78", 3);
        firstError("8:8", 2);
        firstError("1:01,12", 0);
        firstError("9;99;99", 0);
        firstError("4:44,55", 2);
        firstError("4:01 23", 4);
        firstError("4:01,12,23,30,02,13", 19);
        firstError("4:01,12,23,30,02,31,1", 21);
        firstError(CUBE, 37);
        firstError(CUBE + ",", 37);
        firstError(CUBE + ",02", 37);
        firstError(CUBE + "0", 37);
        firstError(CUBE.substring(0, 35) + ",", 35);
        firstError(CUBE.substring(0, 36) + "2", 36);
    }

    private static void firstError(String text, int want) {
        RotorRouter x = new RotorRouter();
        Routers.type(x, text);
        CHECK.due("firstError() of " + text, x.firstError(), want);
        CHECK.due("firstError() again of " + text, x.firstError(), want);
        CHECK.due("clearInput() of " + text, x.clearInput(), text.length());
    }

    /** '!' is never right: the error has to be told at its own index, whatever comes behind it. */
    private static void wrongCharacterAtEachIndex() {
        for (int index = 0; index < CUBE.length(); index++) {
            firstError(CUBE.substring(0, index), index);
            firstError(CUBE.substring(0, index) + "!" + CUBE.substring(index + 1), index);
        }
    }

    private static void inputsThatLoad() {
        loads("2:01", 1);
        loads("2:10", 1);
        loads("3:01,12", 2);
        loads("3:12,02", 2);
        loads("4:23,12,01", 3);
        loads("4:01,12,23,30,02,13", 6);
        loads("8:07,17,27,37,47,57,67", 7);
        loads("8:67,56,45,34,23,12,01", 7);
        loads("6:01,02,03,04,05,12,13,14,15,23,24,25", 12);
        loads(CUBE, 12);
    }

    private static void loads(String text, int links) {
        RotorRouter x = new RotorRouter();
        Routers.type(x, text);
        CHECK.due("load() of " + text, x.load(), text.charAt(0) - '0');
        CHECK.due("linkCount() of " + text, x.linkCount(), links);
        CHECK.due("clearInput() after load() of " + text, x.clearInput(), 0);
    }

    private static void inputsThatDoNotLoad() {
        String[] texts = {
            "", "2", "2:", "2:0", "2:01,", "2:01,0", "2:01,01", "1:01", "9:01", "2;01", "2:02", "2:00",
            "3:01", "3:12", "3:02", "4:01,23", "4:12,23,31", "5:01,12,20,34", "8:01,12,23,34,45,56",
            "6:01,02,03,04,12,13,14,23,24,34", "3:01,12,", "3:01,12,0", CUBE + ",", CUBE + ",02",
        };
        for (String text : texts) {
            RotorRouter x = new RotorRouter();
            Routers.type(x, text);
            CHECK.due("load() of " + text, x.load(), RotorRouter.INVALID_INPUT);
            CHECK.due("linkCount() of " + text, x.linkCount(), 0);
            CHECK.due("clearInput() of " + text, x.clearInput(), text.length());
        }
    }

    private static void failedLoadChangesNothing() {
        RotorRouter x = Routers.loaded("3:01,12");
        x.addWalker(0);
        x.step(0, 3);
        x.snapshot();
        x.step(0, 2);
        Routers.type(x, "4:01,23");
        long digest = x.digest();
        CHECK.due("load() of two parts", x.load(), RotorRouter.INVALID_INPUT);
        CHECK.due("digest() after it", x.digest(), digest);
        CHECK.due("linkCount() after it", x.linkCount(), 2);
        CHECK.due("degree(3) after it", x.degree(3), RotorRouter.NO_SUCH_NODE);
        CHECK.due("restore() after it", x.restore(), 1);
        CHECK.due("position(0) after it", x.position(0), 1);
        CHECK.due("firstError() after it", x.firstError(), 7);
        Routers.type(x, ",12");
        CHECK.due("load() of the whole", x.load(), 4);
    }

    private static void loadDiscards() {
        RotorRouter x = Routers.loaded("4:01,12,23,30,02");
        x.addWalker(0);
        x.addWalker(3);
        x.step(0, 20);
        x.setRotor(0, 2);
        x.snapshot();
        Routers.type(x, "4:01,12,23,30,02");
        CHECK.due("load() again", x.load(), 4);
        CHECK.due("walkerCount()", x.walkerCount(), 0);
        CHECK.due("position(0)", x.position(0), RotorRouter.NO_SUCH_WALKER);
        CHECK.due("restore()", x.restore(), RotorRouter.NO_SNAPSHOT);
        for (int node = 0; node < 4; node++) {
            CHECK.due("rotor", x.rotor(node), 0);
            CHECK.due("arrivals", x.arrivals(node), 0);
            for (int index = 0; index < x.degree(node); index++) {
                CHECK.due("departures", x.departures(node, index), 0);
            }
        }
        CHECK.due("digest() as of a new object", x.digest(), Routers.loaded("4:01,12,23,30,02").digest());
        Routers.type(x, "2:10");
        CHECK.due("load() of a smaller graph", x.load(), 2);
        CHECK.due("degree(2)", x.degree(2), RotorRouter.NO_SUCH_NODE);
        CHECK.due("degree(0)", x.degree(0), 1);
        CHECK.due("digest() of a smaller graph", x.digest(), Routers.loaded("2:10").digest());
    }
}
