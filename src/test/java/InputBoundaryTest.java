/** The boundary cases of promises 1 to 5, a test for each sentence. */
public final class InputBoundaryTest {
    private static final Check CHECK = new Check();

    public static void main(String[] args) {
        CHECK.sentence("Promise 1", "Creates a simulator without a graph.", InputBoundaryTest::objectWithoutGraph);
        CHECK.sentence("Promise 2", "Returns the new length of the buffer", InputBoundaryTest::lengthOfBuffer);
        CHECK.sentence("Promise 2", "BAD_CHARACTER if code is not 32 to 126", InputBoundaryTest::codesOutOfRange);
        CHECK.sentence("Promise 2", "BAD_CHARACTER if code is not 32 to 126 (checked first)",
            InputBoundaryTest::badCharacterIsCheckedFirst);
        CHECK.sentence("Promise 2", "BUFFER_FULL if the buffer already has 40 characters",
            InputBoundaryTest::fullBuffer);
        CHECK.sentence("Promise 3", "Clears the input buffer.", InputBoundaryTest::bufferIsCleared);
        CHECK.sentence("Promise 3", "Returns the length that the buffer had.", InputBoundaryTest::lengthThatBufferHad);
        CHECK.sentence("Promise 4", "Each character is judged by the characters before it only.",
            InputBoundaryTest::judgedByCharactersBefore);
        CHECK.sentence("Promise 4", "Returns the index of the first character in the buffer that breaks a syntax rule",
            InputBoundaryTest::firstOfSeveralErrors);
        CHECK.sentence("Promise 4", "the length of the buffer if no character does", InputBoundaryTest::noError);
        CHECK.sentence("Promise 5", "The previous graph [..] discarded", InputBoundaryTest::loadDiscardsGraph);
        CHECK.sentence("Promise 5", "its walkers [..] discarded", InputBoundaryTest::loadDiscardsWalkers);
        CHECK.sentence("Promise 5", "its counters [..] discarded; [..] all counters are 0",
            InputBoundaryTest::loadDiscardsCounters);
        CHECK.sentence("Promise 5", "and its snapshot are discarded", InputBoundaryTest::loadDiscardsSnapshot);
        CHECK.sentence("Promise 5", "all rotors [..] are 0", InputBoundaryTest::loadSetsRotors);
        CHECK.sentence("Promise 5", "the buffer is cleared", InputBoundaryTest::loadClearsBuffer);
        CHECK.sentence("Promise 5", "Returns the number of nodes", InputBoundaryTest::loadAnswersNodes);
        CHECK.sentence("Promise 5", "INVALID_INPUT if the buffer is not syntactically complete",
            InputBoundaryTest::incompleteInput);
        CHECK.sentence("Promise 5", "or if some node [..] cannot be reached from node 0 over links",
            InputBoundaryTest::nodeThatCannotBeReached);
        CHECK.sentence("Promise 5", "a node without a link, too", InputBoundaryTest::nodeWithoutLink);
        CHECK.sentence("Promise 5", "cannot be reached from node 0 over links",
            InputBoundaryTest::nodesThatCanBeReached);
        CHECK.finish();
    }

    private static void objectWithoutGraph() {
        RotorRouter other = Routers.busy(Routers.CUBE, 4, "3:01,12");
        RotorRouter x = new RotorRouter();
        CHECK.due("linkCount()", x.linkCount(), 0);
        CHECK.due("walkerCount()", x.walkerCount(), 0);
        CHECK.due("degree(0)", x.degree(0), RotorRouter.NO_SUCH_NODE);
        CHECK.due("snapshot()", x.snapshot(), RotorRouter.NO_SNAPSHOT);
        CHECK.due("restore()", x.restore(), RotorRouter.NO_SNAPSHOT);
        CHECK.due("firstError()", x.firstError(), 0);
        CHECK.due("load()", x.load(), RotorRouter.INVALID_INPUT);
        CHECK.due("digest()", x.digest(), Check.hash(0, 0, 0, 0));
        CHECK.due("clearInput()", x.clearInput(), 0);
        CHECK.due("linkCount() of an older object", other.linkCount(), 12);
    }

    private static void lengthOfBuffer() {
        RotorRouter x = new RotorRouter();
        for (int length = 1; length <= 40; length++) {
            CHECK.due("append, to " + length, x.append(' '), length);
        }
        x.clearInput();
        CHECK.due("append after clearInput()", x.append('~'), 1);
    }

    private static void codesOutOfRange() {
        for (int code = -130; code <= 400; code++) {
            boolean right = code >= 32 && code <= 126;
            CHECK.due("append(" + code + ")", new RotorRouter().append(code), right ? 1 : RotorRouter.BAD_CHARACTER);
        }
        RotorRouter x = Routers.typed("2:0");
        int[] extremes = {Integer.MIN_VALUE, Integer.MAX_VALUE, 65536 + 50, -65536 + 50, Integer.MIN_VALUE + 50};
        for (int code : extremes) {
            CHECK.due("append(" + code + ")", x.append(code), RotorRouter.BAD_CHARACTER);
        }
    }

    private static void badCharacterIsCheckedFirst() {
        RotorRouter x = full();
        for (int code : new int[] {31, 127, 0, -1, Integer.MIN_VALUE, Integer.MAX_VALUE}) {
            CHECK.due("append(" + code + ") to 40", x.append(code), RotorRouter.BAD_CHARACTER);
        }
    }

    private static void fullBuffer() {
        RotorRouter x = new RotorRouter();
        for (int length = 0; length < 39; length++) {
            x.append('x');
        }
        CHECK.due("append to 39", x.append('x'), 40);
        for (int code = 32; code <= 126; code++) {
            CHECK.due("append(" + code + ") to 40", x.append(code), RotorRouter.BUFFER_FULL);
        }
        CHECK.due("clearInput()", x.clearInput(), 40);
        CHECK.due("append to 0", x.append('x'), 1);
    }

    private static RotorRouter full() {
        return Routers.typed("0123456789012345678901234567890123456789");
    }

    private static void bufferIsCleared() {
        RotorRouter x = Routers.busy(Routers.SQUARE, 2, "");
        String before = Routers.seen(x);
        Routers.type(x, Routers.CUBE + ",02");
        x.clearInput();
        CHECK.same("all but the input", Routers.seen(x), before);
        CHECK.due("firstError()", x.firstError(), 0);
        CHECK.due("load()", x.load(), RotorRouter.INVALID_INPUT);
        CHECK.due("restore()", x.restore(), 1);
        Routers.type(x, "2:01");
        CHECK.due("load() of what came after", x.load(), 2);
        CHECK.due("linkCount()", x.linkCount(), 1);
    }

    private static void lengthThatBufferHad() {
        for (int length = 0; length <= 40; length++) {
            RotorRouter x = new RotorRouter();
            for (int i = 0; i < length; i++) {
                x.append('2');
            }
            CHECK.due("clearInput() of " + length, x.clearInput(), length);
            CHECK.due("clearInput() again", x.clearInput(), 0);
        }
        RotorRouter refused = full();
        refused.append('0');
        refused.append(31);
        CHECK.due("clearInput() after refused characters", refused.clearInput(), 40);
    }

    private static void judgedByCharactersBefore() {
        firstError("2:01,0", 6);
        firstError("2:01,1", 6);
        firstError("2:01,00", 6);
        firstError("3:2", 3);
        firstError("3:22", 3);
        firstError("8:01,", 5);
        firstError("3:01,12,20,", 11);
        for (int length = 0; length < Routers.CUBE.length(); length++) {
            RotorRouter x = Routers.typed(Routers.CUBE.substring(0, length) + "!");
            for (int more = length; more < 39; more++) {
                CHECK.due("firstError() with more behind it", x.firstError(), length);
                x.append(Routers.CUBE.charAt(more % 37));
            }
        }
    }

    private static void firstOfSeveralErrors() {
        firstError("9;99;99", 0);
        firstError("3;99;99", 1);
        firstError("3:99;99", 2);
        firstError("3:09;99", 3);
        firstError("3:01;99", 4);
        firstError("3:01,99", 5);
        firstError("3:01,11", 6);
        firstError(" 3:01,12", 0);
        firstError("3:01,12 ", 7);
        firstError("3:01,10,99", 6);
        firstError(Routers.CUBE.substring(0, 36) + "3,02", 36);
        firstError(Routers.CUBE + ",02", 37);
        firstError("0123456789012345678901234567890123456789", 0);
    }

    private static void noError() {
        CHECK.due("firstError() of a new object", new RotorRouter().firstError(), 0);
        CHECK.due("firstError() after load()", Routers.loaded(Routers.CUBE).firstError(), 0);
        for (int length = 0; length <= Routers.CUBE.length(); length++) {
            firstError(Routers.CUBE.substring(0, length), length);
        }
    }

    private static void firstError(String text, int want) {
        RotorRouter x = Routers.typed(text);
        CHECK.due("firstError() of " + text, x.firstError(), want);
        CHECK.due("firstError() again of " + text, x.firstError(), want);
    }

    private static void loadDiscardsGraph() {
        RotorRouter x = Routers.loaded(Routers.CUBE);
        Routers.type(x, "2:10");
        x.load();
        CHECK.due("linkCount()", x.linkCount(), 1);
        CHECK.due("degree(0)", x.degree(0), 1);
        CHECK.due("neighbor(0, 1)", x.neighbor(0, 1), RotorRouter.OUT_OF_RANGE);
        for (int node = 2; node < 8; node++) {
            CHECK.due("degree(" + node + ")", x.degree(node), RotorRouter.NO_SUCH_NODE);
        }
        CHECK.same("a smaller graph", Routers.seen(x), Routers.seen(Routers.loaded("2:10")));
        Routers.type(x, Routers.star(8));
        x.load();
        CHECK.same("a larger graph", Routers.seen(x), Routers.seen(Routers.loaded(Routers.star(8))));
    }

    private static void loadDiscardsWalkers() {
        RotorRouter x = Routers.busy(Routers.SQUARE, 4, Routers.SQUARE);
        CHECK.due("walkerCount() before", x.walkerCount(), 4);
        x.load();
        CHECK.due("walkerCount()", x.walkerCount(), 0);
        for (int walker = 0; walker < 4; walker++) {
            CHECK.due("position(" + walker + ")", x.position(walker), RotorRouter.NO_SUCH_WALKER);
        }
        for (int walker = 0; walker < 4; walker++) {
            CHECK.due("addWalker(3)", x.addWalker(3), walker);
        }
    }

    private static void loadDiscardsCounters() {
        RotorRouter x = Routers.loaded(Routers.CUBE);
        x.addWalker(0);
        x.step(0, 1000);
        for (int node = 0; node < 8; node++) {
            CHECK.holds("arrivals before", x.arrivals(node) > 0);
        }
        Routers.type(x, Routers.CUBE);
        x.load();
        for (int node = 0; node < 8; node++) {
            CHECK.due("arrivals(" + node + ")", x.arrivals(node), 0);
            for (int index = 0; index < 3; index++) {
                CHECK.due("departures(" + node + ", " + index + ")", x.departures(node, index), 0);
            }
        }
    }

    private static void loadDiscardsSnapshot() {
        RotorRouter x = Routers.busy(Routers.SQUARE, 2, Routers.SQUARE);
        CHECK.due("restore() before", x.restore(), 1);
        x.load();
        CHECK.due("restore()", x.restore(), RotorRouter.NO_SNAPSHOT);
        CHECK.due("snapshot()", x.snapshot(), 0);
        CHECK.due("restore() of the new graph's", x.restore(), 0);
    }

    private static void loadSetsRotors() {
        RotorRouter x = Routers.loaded(Routers.star(8));
        x.setRotor(7, 6);
        Routers.type(x, Routers.star(8));
        x.load();
        for (int node = 0; node < 8; node++) {
            CHECK.due("rotor(" + node + ")", x.rotor(node), 0);
        }
        x.addWalker(7);
        CHECK.due("step(0, 1)", x.step(0, 1), 0);
    }

    private static void loadClearsBuffer() {
        for (String text : new String[] {"2:01", Routers.CUBE}) {
            RotorRouter x = Routers.loaded(text);
            CHECK.due("firstError()", x.firstError(), 0);
            CHECK.due("load()", x.load(), RotorRouter.INVALID_INPUT);
            CHECK.due("clearInput()", x.clearInput(), 0);
            RotorRouter y = Routers.loaded(text);
            CHECK.due("append", y.append('2'), 1);
        }
    }

    private static void loadAnswersNodes() {
        for (int nodes = 2; nodes <= 8; nodes++) {
            CHECK.due("load() of a path", Routers.typed(Routers.path(nodes)).load(), nodes);
            CHECK.due("load() of a star", Routers.typed(Routers.star(nodes)).load(), nodes);
        }
    }

    private static void incompleteInput() {
        for (int length = 0; length < Routers.CUBE.length(); length++) {
            boolean isSecondNode = length >= 4 && length % 3 == 1;
            if (!isSecondNode) {
                doesNotLoad(Routers.CUBE.substring(0, length));
            }
        }
        doesNotLoad(Routers.CUBE + ",");
        doesNotLoad(Routers.CUBE + ",0");
        doesNotLoad(Routers.CUBE + ",02");
        doesNotLoad("2:01 ");
        doesNotLoad("2:01,10");
        doesNotLoad("3:01,12,22");
    }

    private static void nodeThatCannotBeReached() {
        doesNotLoad("4:01,23");
        doesNotLoad("4:02,13");
        doesNotLoad("5:01,12,20,34");
        doesNotLoad("8:01,12,23,30,45,56,67,74");
        doesNotLoad("8:01,02,03,12,13,23,45,46,47,56,57,67");
        doesNotLoad("8:01,12,23,34,45,50,67");
    }

    private static void nodeWithoutLink() {
        doesNotLoad("3:01");
        doesNotLoad("3:02");
        doesNotLoad("3:12");
        doesNotLoad("8:01,12,23,34,45,56");
        doesNotLoad("8:12,23,34,45,56,67");
        doesNotLoad("8:01,12,23,35,56,67,70");
        doesNotLoad("6:01,02,03,04,12,13,14,23,24,34");
        doesNotLoad("6:12,13,14,15,23,24,25,34,35,45");
    }

    private static void nodesThatCanBeReached() {
        String[] texts = {
            "2:10", "3:21,20", "4:32,21,10", "8:67,56,45,34,23,12,01", "8:76,65,54,43,32,21,10",
            "8:07,71,16,62,25,53,34", "8:34,25,53,16,62,07,71", "8:47,46,45,43,42,41,40",
        };
        for (String text : texts) {
            CHECK.due("load() of " + text, Routers.typed(text).load(), text.charAt(0) - '0');
        }
    }

    private static void doesNotLoad(String text) {
        CHECK.due("load() of " + text, Routers.typed(text).load(), RotorRouter.INVALID_INPUT);
    }
}
