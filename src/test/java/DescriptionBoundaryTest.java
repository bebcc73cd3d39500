/** The boundary cases of the document's beginning and of its description, a test for each sentence. */
public final class DescriptionBoundaryTest {
    private static final Check CHECK = new Check();
    private static final int FIRST_CODE = 32;
    private static final int LAST_CODE = 126;

    public static void main(String[] args) {
        CHECK.sentence("What it is", "An object is used for at most 512 calls after it has been made",
            DescriptionBoundaryTest::lastCallOfAnObject);
        CHECK.sentence("Graph", "A graph has 2 to 8 nodes, numbered from 0",
            DescriptionBoundaryTest::fewestAndMostNodes);
        CHECK.sentence("Graph", "and 1 to 12 links", DescriptionBoundaryTest::fewestAndMostLinks);
        CHECK.sentence("Graph", "A link joins two different nodes", DescriptionBoundaryTest::linkToItself);
        CHECK.sentence("Graph", "no two nodes are joined by more than one link",
            DescriptionBoundaryTest::secondLinkOfTwoNodes);
        CHECK.sentence("Graph",
            "neighbor 0 comes from the first link in the input that contains the node, neighbor 1 from the"
                + " second such link, and so on",
            DescriptionBoundaryTest::orderOfNeighbors);
        CHECK.sentence("Graph", "The degree of a node is the number of its neighbors.",
            DescriptionBoundaryTest::leastAndGreatestDegree);
        CHECK.sentence("Input text", "an input buffer of at most 40 characters", DescriptionBoundaryTest::longestInput);
        CHECK.sentence("Input text",
            "a digit '2' to '8' (the number of nodes), a colon, and one or more links separated by commas",
            DescriptionBoundaryTest::oneOrMoreLinks);
        CHECK.sentence("Input text", "A link is written as two digits, the numbers of its nodes.",
            DescriptionBoundaryTest::twoDigitsOfLink);
        CHECK.sentence("Input text", "Index 0 must be a digit '2' to '8'.", DescriptionBoundaryTest::characterAtIndex0);
        CHECK.sentence("Input text", "Index 1 must be ':'.", DescriptionBoundaryTest::characterAtIndex1);
        CHECK.sentence("Input text",
            "From index 2 on, characters come in groups of three: first node, second node, comma.",
            DescriptionBoundaryTest::groupsOfThree);
        CHECK.sentence("Input text", "The first node must be a digit that is less than the number of nodes.",
            DescriptionBoundaryTest::firstNodeOfLink);
        CHECK.sentence("Input text",
            "The second node must be a digit that is less than the number of nodes and different from the"
                + " first node",
            DescriptionBoundaryTest::secondNodeOfLink);
        CHECK.sentence("Input text", "the link must not have been written before, in either direction",
            DescriptionBoundaryTest::linkWrittenBefore);
        CHECK.sentence("Input text", "The comma must be ','.", DescriptionBoundaryTest::characterOfComma);
        CHECK.sentence("Input text", "A comma after the 12th link breaks this rule.",
            DescriptionBoundaryTest::commaAfterLastLink);
        CHECK.sentence("Input text",
            "An input is syntactically complete if it breaks no rule and its last character is the second"
                + " node of a link.",
            DescriptionBoundaryTest::completeInput);
        CHECK.sentence("Input text", "Whether the graph is connected is not part of the syntax.",
            DescriptionBoundaryTest::unconnectedInput);
        CHECK.sentence("Walks", "All rotors are 0 when a graph is loaded.", DescriptionBoundaryTest::rotorsOfNewGraph);
        CHECK.sentence("Walks", "There are up to 4 walkers, numbered from 0 in the order in which they were added.",
            DescriptionBoundaryTest::numbersOfWalkers);
        CHECK.sentence("Walks", "Several walkers may be at the same node.", DescriptionBoundaryTest::walkersAtOneNode);
        CHECK.sentence("Walks", "the walker moves to the neighbor of v to which the rotor of v points",
            DescriptionBoundaryTest::stepFollowsRotor);
        CHECK.sentence("Walks", "then the rotor of v increases by 1, and becomes 0 if that equals the degree of v",
            DescriptionBoundaryTest::rotorTurnsToZero);
        CHECK.finish();
    }

    private static void lastCallOfAnObject() {
        RotorRouter x = Routers.loaded("2:01");
        x.addWalker(0);
        for (int call = 7; call <= 506; call++) {
            x.step(0, 1000);
        }
        CHECK.due("call 507, arrivals(0)", x.arrivals(0), 250000);
        CHECK.due("call 508, arrivals(1)", x.arrivals(1), 250000);
        CHECK.due("call 509, departures(0, 0)", x.departures(0, 0), 250000);
        CHECK.due("call 510, departures(1, 0)", x.departures(1, 0), 250000);
        CHECK.due("call 511, step(0, 1)", x.step(0, 1), 1);
        long four = Double.doubleToLongBits(4.0);
        CHECK.due("call 512, digest()", x.digest(), Check.hash(
            2, 1, 1, 0, 250000, 1, 250001, 1, 0, 250001, 0, 250000, 1, 1, 0, 1, 1, four, 0));
        RotorRouter typing = new RotorRouter();
        for (int call = 1; call < 512; call += 2) {
            CHECK.due("call " + call + ", append(33)", typing.append(33), 1);
            CHECK.due("call " + (call + 1) + ", clearInput()", typing.clearInput(), 1);
        }
    }

    private static void fewestAndMostNodes() {
        for (int nodes = 2; nodes <= 8; nodes++) {
            RotorRouter x = Routers.typed(Routers.path(nodes));
            CHECK.due("load() of " + nodes + " nodes", x.load(), nodes);
            CHECK.due("degree(-1)", x.degree(-1), RotorRouter.NO_SUCH_NODE);
            for (int node = 0; node < nodes; node++) {
                CHECK.due("degree(" + node + ")", x.degree(node), node == 0 || node == nodes - 1 ? 1 : 2);
            }
            CHECK.due("degree(" + nodes + ")", x.degree(nodes), RotorRouter.NO_SUCH_NODE);
        }
        doesNotLoad("0:01");
        doesNotLoad("1:01");
        doesNotLoad("1:00");
        doesNotLoad("9:01,12,23,34,45,56,67,78");
    }

    private static void fewestAndMostLinks() {
        String links = "01,02,03,04,05,06,07,12,13,14,15,16";
        doesNotLoad("2:");
        CHECK.due("linkCount() of one", Routers.loaded("2:01").linkCount(), 1);
        for (int count = 7; count <= 12; count++) {
            String text = "8:" + links.substring(0, 3 * count - 1);
            CHECK.due("linkCount() of " + text, Routers.loaded(text).linkCount(), count);
        }
        doesNotLoad("8:" + links + ",17");
    }

    private static void linkToItself() {
        for (int node = 0; node < 8; node++) {
            doesNotLoad("8:" + node + node);
            doesNotLoad(Routers.path(8) + "," + node + node);
        }
    }

    private static void secondLinkOfTwoNodes() {
        doesNotLoad("2:01,01");
        doesNotLoad("2:01,10");
        doesNotLoad("2:10,01");
        doesNotLoad("3:01,12,10");
        doesNotLoad("3:01,12,12");
        CHECK.due("load() of a triangle", Routers.typed("3:01,12,20").load(), 3);
    }

    private static void orderOfNeighbors() {
        RotorRouter star = Routers.loaded("8:37,30,63,13,35,23,43");
        int[] rays = {7, 0, 6, 1, 5, 2, 4};
        for (int index = 0; index < 7; index++) {
            CHECK.due("neighbor(3, " + index + ")", star.neighbor(3, index), rays[index]);
            CHECK.due("neighbor(" + rays[index] + ", 0)", star.neighbor(rays[index], 0), 3);
        }
        RotorRouter last = Routers.loaded("8:01,02,03,12,13,23,34,45,56,64,67,57");
        CHECK.due("neighbor(7, 0), from the 11th link", last.neighbor(7, 0), 6);
        CHECK.due("neighbor(7, 1), from the 12th link", last.neighbor(7, 1), 5);
        CHECK.due("neighbor(5, 2), from the 12th link", last.neighbor(5, 2), 7);
    }

    private static void leastAndGreatestDegree() {
        for (int nodes = 2; nodes <= 8; nodes++) {
            RotorRouter x = Routers.loaded(Routers.star(nodes));
            CHECK.due("degree of the center", x.degree(nodes - 1), nodes - 1);
            for (int node = 0; node < nodes - 1; node++) {
                CHECK.due("degree of a ray", x.degree(node), 1);
            }
        }
    }

    private static void longestInput() {
        RotorRouter x = new RotorRouter();
        for (int length = 1; length <= 40; length++) {
            CHECK.due("append, to " + length, x.append('8'), length);
        }
        CHECK.due("append to 40", x.append('8'), RotorRouter.BUFFER_FULL);
        CHECK.due("clearInput()", x.clearInput(), 40);
    }

    private static void oneOrMoreLinks() {
        doesNotLoad("2");
        doesNotLoad("2:");
        doesNotLoad("2:,");
        doesNotLoad("2:,01");
        doesNotLoad("3:0112");
        doesNotLoad("3:01,,12");
        CHECK.due("load() of one", Routers.typed("2:01").load(), 2);
        CHECK.due("load() of two", Routers.typed("3:01,12").load(), 3);
        CHECK.due("load() of twelve", Routers.typed(Routers.CUBE).load(), 8);
    }

    private static void twoDigitsOfLink() {
        for (int node = 1; node < 8; node++) {
            RotorRouter x = Routers.loaded(Routers.path(8));
            CHECK.due("neighbor(" + node + ", 0)", x.neighbor(node, 0), node - 1);
        }
        doesNotLoad("2:0");
        doesNotLoad("2:1,0");
        doesNotLoad("2:001");
        doesNotLoad("2:0-1");
    }

    private static void characterAtIndex0() {
        for (int code = FIRST_CODE; code <= LAST_CODE; code++) {
            boolean right = code >= '2' && code <= '8';
            firstError("" + (char) code, right ? 1 : 0);
            firstError((char) code + ":01", right ? 4 : 0);
        }
    }

    private static void characterAtIndex1() {
        for (int code = FIRST_CODE; code <= LAST_CODE; code++) {
            firstError("2" + (char) code, code == ':' ? 2 : 1);
            firstError("8" + (char) code + "01", code == ':' ? 4 : 1);
        }
    }

    private static void groupsOfThree() {
        String cube = Routers.CUBE;
        for (int index = 2; index < cube.length(); index++) {
            char other = cube.charAt(index) == ',' ? '0' : ',';
            firstError(cube.substring(0, index) + other + cube.substring(index + 1), index);
        }
    }

    private static void firstNodeOfLink() {
        String elevenLinks = Routers.CUBE.substring(0, 34);
        for (int code = FIRST_CODE; code <= LAST_CODE; code++) {
            for (int nodes = 2; nodes <= 8; nodes++) {
                firstError(nodes + ":" + (char) code, isNode(code, nodes) ? 3 : 2);
            }
            firstError("3:01," + (char) code, isNode(code, 3) ? 6 : 5);
            firstError(elevenLinks + "," + (char) code, isNode(code, 8) ? 36 : 35);
        }
    }

    private static void secondNodeOfLink() {
        String elevenLinks = Routers.CUBE.substring(0, 34);
        for (int code = FIRST_CODE; code <= LAST_CODE; code++) {
            for (int nodes = 2; nodes <= 8; nodes++) {
                for (int first = 0; first < nodes; first++) {
                    boolean right = isNode(code, nodes) && code != '0' + first;
                    firstError(nodes + ":" + first + (char) code, right ? 4 : 3);
                }
            }
            boolean isNewLink = "01567".indexOf(code) >= 0;
            firstError(elevenLinks + ",3" + (char) code, isNewLink ? 37 : 36);
        }
    }

    private static void linkWrittenBefore() {
        String elevenLinks = Routers.CUBE.substring(0, 34);
        for (int link = 0; link < 11; link++) {
            char first = elevenLinks.charAt(2 + 3 * link);
            char second = elevenLinks.charAt(3 + 3 * link);
            firstError(elevenLinks + "," + first + second, 36);
            firstError(elevenLinks + "," + second + first, 36);
        }
        firstError("2:01,01", 6);
        firstError("2:10,10", 6);
        firstError("2:01,10", 6);
        firstError("2:10,01", 6);
        firstError("3:01,02,12,0", 12);
        firstError("3:10,20,21", 10);
    }

    private static void characterOfComma() {
        String elevenLinks = Routers.CUBE.substring(0, 34);
        for (int code = FIRST_CODE; code <= LAST_CODE; code++) {
            firstError("3:01" + (char) code, code == ',' ? 5 : 4);
            firstError("2:01" + (char) code, code == ',' ? 5 : 4);
            firstError(elevenLinks + (char) code, code == ',' ? 35 : 34);
        }
    }

    private static void commaAfterLastLink() {
        firstError(Routers.CUBE, 37);
        firstError(Routers.CUBE + ",", 37);
        firstError(Routers.CUBE + ",0", 37);
        firstError(Routers.CUBE + ",02", 37);
        firstError("8:01,02,03,04,05,06,07,12,13,14,15,16,", 37);
        firstError("8:01,02,03,04,05,06,07,12,13,14,15,", 35);
        doesNotLoad(Routers.CUBE + ",");
        doesNotLoad(Routers.CUBE + ",02");
    }

    private static void completeInput() {
        String text = "3:01,12,20,";
        for (int length = 0; length <= text.length(); length++) {
            RotorRouter x = Routers.typed(text.substring(0, length));
            CHECK.due("load() of " + text.substring(0, length),
                x.load(), length == 7 || length == 10 ? 3 : RotorRouter.INVALID_INPUT);
        }
        doesNotLoad("2:01,0");
        doesNotLoad("2:01,01");
        doesNotLoad("3;01,12");
        doesNotLoad("3:01;12");
        doesNotLoad("3:01,13");
        doesNotLoad("9:01,12");
    }

    private static void unconnectedInput() {
        String[] texts = {"3:01", "3:12", "4:01,23", "8:67", "8:01,12,20,34,45,53"};
        for (String text : texts) {
            firstError(text, text.length());
            doesNotLoad(text);
        }
    }

    private static void rotorsOfNewGraph() {
        RotorRouter x = Routers.loaded(Routers.CUBE);
        for (int round = 0; round < 2; round++) {
            for (int node = 0; node < 8; node++) {
                CHECK.due("rotor(" + node + ")", x.rotor(node), 0);
                x.setRotor(node, 2);
            }
            Routers.type(x, Routers.CUBE);
            x.load();
        }
    }

    private static void numbersOfWalkers() {
        RotorRouter x = Routers.loaded(Routers.SQUARE);
        int[] nodes = {3, 1, 0, 2};
        for (int walker = 0; walker < 4; walker++) {
            CHECK.due("addWalker(" + nodes[walker] + ")", x.addWalker(nodes[walker]), walker);
        }
        CHECK.due("addWalker(0)", x.addWalker(0), RotorRouter.TOO_MANY_WALKERS);
        for (int walker = 0; walker < 4; walker++) {
            CHECK.due("position(" + walker + ")", x.position(walker), nodes[walker]);
        }
        CHECK.due("position(-1)", x.position(-1), RotorRouter.NO_SUCH_WALKER);
        CHECK.due("position(4)", x.position(4), RotorRouter.NO_SUCH_WALKER);
    }

    private static void walkersAtOneNode() {
        RotorRouter x = Routers.loaded(Routers.PATH);
        for (int walker = 0; walker < 4; walker++) {
            CHECK.due("addWalker(2)", x.addWalker(2), walker);
        }
        CHECK.due("step(3, 1)", x.step(3, 1), 1);
        for (int walker = 0; walker < 4; walker++) {
            CHECK.due("position(" + walker + ")", x.position(walker), walker == 3 ? 1 : 2);
        }
        CHECK.due("step(0, 1), to where walker 3 is", x.step(0, 1), 1);
        CHECK.due("step(3, 1)", x.step(3, 1), 0);
        CHECK.due("step(0, 1)", x.step(0, 1), 2);
        CHECK.due("position(3)", x.position(3), 0);
        CHECK.due("position(1)", x.position(1), 2);
    }

    private static void stepFollowsRotor() {
        for (int index = 0; index < 7; index++) {
            RotorRouter x = Routers.loaded("8:37,30,63,13,35,23,43");
            x.addWalker(3);
            x.setRotor(3, index);
            CHECK.due("step(0, 1) with rotor " + index, x.step(0, 1), x.neighbor(3, index));
            CHECK.due("rotor(3)", x.rotor(3), index == 6 ? 0 : index + 1);
        }
    }

    private static void rotorTurnsToZero() {
        for (int nodes = 2; nodes <= 8; nodes++) {
            RotorRouter x = Routers.loaded(Routers.star(nodes));
            int center = nodes - 1;
            x.addWalker(center);
            for (int visit = 0; visit < 2 * center + 1; visit++) {
                CHECK.due("rotor of the center", x.rotor(center), visit % center);
                CHECK.due("step(0, 1) away", x.step(0, 1), visit % center);
                CHECK.due("rotor of the ray before", x.rotor(visit % center), 0);
                CHECK.due("step(0, 1) back", x.step(0, 1), center);
                CHECK.due("rotor of the ray after", x.rotor(visit % center), 0);
            }
        }
    }

    private static boolean isNode(int code, int nodes) {
        return code >= '0' && code < '0' + nodes;
    }

    private static void firstError(String text, int want) {
        CHECK.due("firstError() of " + text, Routers.typed(text).firstError(), want);
    }

    private static void doesNotLoad(String text) {
        CHECK.due("load() of " + text, Routers.typed(text).load(), RotorRouter.INVALID_INPUT);
    }
}
