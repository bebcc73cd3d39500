import java.util.ArrayList;
import java.util.Collections;
import java.util.List;
import java.util.Random;

/** Runs of calls on the class and on the model: every answer, and the digest, has to be the same. */
public final class ModelTest {
    private static final Check CHECK = new Check();
    private static final int CALLS_OF_ONE_OBJECT = 512;
    private static final int[] EXTREMES = {
        Integer.MIN_VALUE, Integer.MAX_VALUE, -1, 7, 8, 9, 40, 50, 51, 56, 1000, 1001, 1 << 16, 1 << 30,
    };

    private final Random random;
    private final RotorRouter x = new RotorRouter();
    private final Model model = new Model();
    private int calls = 0;

    private ModelTest(long seed) {
        random = new Random(seed);
    }

    public static void main(String[] args) {
        for (int seed = 0; seed < 400; seed++) {
            new ModelTest(seed).run();
        }
        for (int seed = 1000; seed < 1300; seed++) {
            new ModelTest(seed).everyQuestion();
        }
        CHECK.finish();
    }

    private void run() {
        if (random.nextInt(4) > 0) {
            typeAndLoad(graphText());
        }
        while (calls < CALLS_OF_ONE_OBJECT - 50) {
            int kind = random.nextInt(40);
            if (kind == 0) {
                typeAndLoad(random.nextInt(3) == 0 ? spoiled(graphText()) : graphText());
            } else if (kind < 4) {
                input();
            } else if (kind < 24) {
                walk();
            } else if (kind < 36) {
                ask();
            } else {
                keep();
            }
        }
        due("digest()", x.digest(), model.digest());
    }

    /** All questions of one graph, within the calls that an object is made for. */
    private void everyQuestion() {
        typeAndLoad(graphText());
        int nodes = nodeCount();
        for (int walker = 0; walker < 4 && nodes > 0; walker++) {
            int node = random.nextInt(nodes);
            due("addWalker(" + node + ")", x.addWalker(node), model.addWalker(node));
        }
        for (int node = 0; node < nodes; node++) {
            int index = random.nextInt(model.degree(node));
            due("setRotor(" + node + ", " + index + ")", x.setRotor(node, index), model.setRotor(node, index));
        }
        for (int walker = 0; walker < 4; walker++) {
            due("stepsToCycle(" + walker + ")", x.stepsToCycle(walker), model.stepsToCycle(walker));
            due("coverTime(" + walker + ")", x.coverTime(walker), model.coverTime(walker));
        }
        for (int start = 0; start < nodes; start++) {
            due("leastCoverTime(" + start + ")", x.leastCoverTime(start), model.leastCoverTime(start));
            int some = random.nextInt(nodes);
            due("bestRotor(" + start + ", " + some + ")", x.bestRotor(start, some), model.bestRotor(start, some));
            for (int node = 0; node < nodes; node++) {
                int steps = random.nextInt(51);
                due("expectedArrivals(" + start + ", " + steps + ", " + node + ")",
                    x.expectedArrivals(start, steps, node), model.expectedArrivals(start, steps, node));
            }
        }
    }

    private int nodeCount() {
        int nodes = 0;
        while (model.degree(nodes) >= 0) {
            nodes++;
        }
        return nodes;
    }

    private void due(String call, long got, long want) {
        calls++;
        CHECK.due("call " + calls + ", " + call, got, want);
    }

    private void typeAndLoad(String text) {
        due("clearInput()", x.clearInput(), model.clearInput());
        for (int i = 0; i < text.length(); i++) {
            due("append(" + text.charAt(i) + ")", x.append(text.charAt(i)), model.append(text.charAt(i)));
        }
        due("firstError() of " + text, x.firstError(), model.firstError());
        due("load() of " + text, x.load(), model.load());
    }

    /** Mostly a connected graph: a tree, and links that may be missing. */
    private String graphText() {
        int nodes = 2 + random.nextInt(7);
        List<String> links = new ArrayList<>();
        List<String> others = new ArrayList<>();
        boolean[][] joined = new boolean[nodes][nodes];
        for (int node = 1; node < nodes; node++) {
            int other = random.nextInt(node);
            joined[other][node] = true;
            links.add(link(other, node));
        }
        for (int node = 0; node < nodes; node++) {
            for (int other = 0; other < node; other++) {
                if (!joined[other][node]) {
                    others.add(link(other, node));
                }
            }
        }
        Collections.shuffle(others, random);
        int room = Math.min(others.size(), 12 - links.size());
        links.addAll(others.subList(0, random.nextInt(room + 1)));
        Collections.shuffle(links, random);
        if (links.size() > 1 && random.nextInt(12) == 0) {
            links.remove(0);
        }
        return nodes + ":" + String.join(",", links);
    }

    private String link(int a, int b) {
        return random.nextBoolean() ? "" + a + b : "" + b + a;
    }

    private String spoiled(String text) {
        int index = random.nextInt(text.length());
        String signs = "0123456789:,; ~/";
        char sign = signs.charAt(random.nextInt(signs.length()));
        switch (random.nextInt(4)) {
            case 0:
                return text.substring(0, index) + sign + text.substring(index + 1);
            case 1:
                return text.substring(0, index) + sign + text.substring(index);
            case 2:
                return text.substring(0, index) + text.substring(index + 1);
            default:
                return text + "," + text.substring(2, 4);
        }
    }

    private int number(int usual) {
        if (random.nextInt(12) == 0) {
            return EXTREMES[random.nextInt(EXTREMES.length)];
        }
        return random.nextInt(usual);
    }

    private void input() {
        switch (random.nextInt(6)) {
            case 0:
                due("clearInput()", x.clearInput(), model.clearInput());
                break;
            case 1:
                due("firstError()", x.firstError(), model.firstError());
                break;
            case 2:
                due("load()", x.load(), model.load());
                break;
            default:
                int code = random.nextBoolean() ? number(200) : 48 + number(11);
                due("append(" + code + ")", x.append(code), model.append(code));
        }
    }

    private void walk() {
        int node = number(8);
        int index = number(4);
        int walker = number(4);
        int steps = random.nextBoolean() ? number(20) : number(1003);
        boolean turns = random.nextBoolean();
        switch (random.nextInt(7)) {
            case 0:
                due("setRotor(" + node + ", " + index + ")", x.setRotor(node, index), model.setRotor(node, index));
                break;
            case 1:
                due("addWalker(" + node + ")", x.addWalker(node), model.addWalker(node));
                break;
            case 2:
                due("absorb(" + node + ", " + turns + ")", x.absorb(node, turns), model.absorb(node, turns));
                break;
            case 3:
                due("position(" + walker + ")", x.position(walker), model.position(walker));
                break;
            default:
                due("step(" + walker + ", " + steps + ")", x.step(walker, steps), model.step(walker, steps));
        }
    }

    private void ask() {
        int node = number(8);
        int other = number(8);
        int index = number(4);
        int walker = number(4);
        int steps = number(53);
        switch (random.nextInt(11)) {
            case 0:
                due("degree(" + node + ")", x.degree(node), model.degree(node));
                break;
            case 1:
                due("neighbor(" + node + ", " + index + ")", x.neighbor(node, index), model.neighbor(node, index));
                break;
            case 2:
                due("rotor(" + node + ")", x.rotor(node), model.rotor(node));
                break;
            case 3:
                due("arrivals(" + node + ")", x.arrivals(node), model.arrivals(node));
                break;
            case 4:
                due("departures(" + node + ", " + index + ")",
                    x.departures(node, index), model.departures(node, index));
                break;
            case 5:
                due("stepsToCycle(" + walker + ")", x.stepsToCycle(walker), model.stepsToCycle(walker));
                break;
            case 6:
                due("coverTime(" + walker + ")", x.coverTime(walker), model.coverTime(walker));
                break;
            case 7:
                due("leastCoverTime(" + node + ")", x.leastCoverTime(node), model.leastCoverTime(node));
                break;
            case 8:
                due("bestRotor(" + node + ", " + other + ")", x.bestRotor(node, other), model.bestRotor(node, other));
                break;
            default:
                due("expectedArrivals(" + node + ", " + steps + ", " + other + ")",
                    x.expectedArrivals(node, steps, other), model.expectedArrivals(node, steps, other));
        }
    }

    private void keep() {
        switch (random.nextInt(5)) {
            case 0:
                due("snapshot()", x.snapshot(), model.snapshot());
                break;
            case 1:
                due("restore()", x.restore(), model.restore());
                break;
            case 2:
                due("walkerCount()", x.walkerCount(), model.walkerCount());
                break;
            case 3:
                due("linkCount()", x.linkCount(), model.linkCount());
                break;
            default:
                due("digest()", x.digest(), model.digest());
        }
    }
}
