import java.util.ArrayList;
import java.util.Arrays;
import java.util.HashSet;
import java.util.List;
import java.util.Set;

/** The document once more, written as plainly as can be and without a thought for cost. */
final class Model {
    private String text = "";
    private List<List<Integer>> graph = new ArrayList<>();
    private int links = 0;
    private int[] rotors = {};
    private int[] arrived = {};
    private int[][] departed = {};
    private List<Integer> walkers = new ArrayList<>();
    private Model kept = null;

    void typeAndLoad(String description) {
        text = description;
        load();
    }

    int append(int code) {
        if (code < 32 || code > 126) {
            return -1;
        }
        if (text.length() == 40) {
            return -2;
        }
        text += (char) code;
        return text.length();
    }

    int clearInput() {
        int length = text.length();
        text = "";
        return length;
    }

    /** A character is right if the text up to it can be told from its form and its links. */
    int firstError() {
        for (int end = 1; end <= text.length(); end++) {
            if (!isRight(text.substring(0, end))) {
                return end - 1;
            }
        }
        return text.length();
    }

    private static boolean isRight(String start) {
        String form = "[2-8](:(\\d\\d,){0,11}\\d?\\d?)?";
        if (!start.matches(form) || start.length() < 3) {
            return start.matches(form);
        }
        Set<String> written = new HashSet<>();
        for (String link : start.substring(2).split(",")) {
            for (char node : link.toCharArray()) {
                if (node >= start.charAt(0)) {
                    return false;
                }
            }
            if (link.length() == 2) {
                char[] ends = link.toCharArray();
                Arrays.sort(ends);
                if (ends[0] == ends[1] || !written.add(new String(ends))) {
                    return false;
                }
            }
        }
        return true;
    }

    int load() {
        if (firstError() != text.length() || !text.matches("\\d:(\\d\\d,)*\\d\\d")) {
            return -3;
        }
        List<List<Integer>> next = new ArrayList<>();
        for (int node = 0; node < text.charAt(0) - '0'; node++) {
            next.add(new ArrayList<>());
        }
        String[] written = text.substring(2).split(",");
        for (String link : written) {
            next.get(link.charAt(0) - '0').add(link.charAt(1) - '0');
            next.get(link.charAt(1) - '0').add(link.charAt(0) - '0');
        }
        Set<Integer> reached = new HashSet<>();
        reach(next, 0, reached);
        if (reached.size() != next.size()) {
            return -3;
        }
        graph = next;
        links = written.length;
        rotors = new int[next.size()];
        arrived = new int[next.size()];
        departed = new int[next.size()][7];
        walkers = new ArrayList<>();
        kept = null;
        text = "";
        return next.size();
    }

    private static void reach(List<List<Integer>> graph, int node, Set<Integer> reached) {
        if (reached.add(node)) {
            for (int other : graph.get(node)) {
                reach(graph, other, reached);
            }
        }
    }

    private boolean isNode(int node) {
        return 0 <= node && node < graph.size();
    }

    private boolean isWalker(int walker) {
        return 0 <= walker && walker < walkers.size();
    }

    private boolean isIndex(int node, int index) {
        return 0 <= index && index < graph.get(node).size();
    }

    int degree(int node) {
        return isNode(node) ? graph.get(node).size() : -4;
    }

    int neighbor(int node, int index) {
        return !isNode(node) ? -4 : !isIndex(node, index) ? -6 : graph.get(node).get(index);
    }

    int rotor(int node) {
        return isNode(node) ? rotors[node] : -4;
    }

    int setRotor(int node, int index) {
        if (!isNode(node) || !isIndex(node, index)) {
            return isNode(node) ? -6 : -4;
        }
        int before = rotors[node];
        rotors[node] = index;
        return before;
    }

    int addWalker(int node) {
        if (!isNode(node) || walkers.size() == 4) {
            return isNode(node) ? -7 : -4;
        }
        walkers.add(node);
        return walkers.size() - 1;
    }

    int position(int walker) {
        return isWalker(walker) ? walkers.get(walker) : -5;
    }

    private void move(int walker) {
        int from = walkers.get(walker);
        int to = graph.get(from).get(rotors[from]);
        departed[from][rotors[from]]++;
        arrived[to]++;
        rotors[from] = (rotors[from] + 1) % graph.get(from).size();
        walkers.set(walker, to);
    }

    int step(int walker, int steps) {
        if (!isWalker(walker) || steps < 1 || steps > 1000) {
            return isWalker(walker) ? -6 : -5;
        }
        for (int i = 0; i < steps; i++) {
            move(walker);
        }
        return walkers.get(walker);
    }

    int absorb(int sink, boolean roundRobin) {
        if (!isNode(sink)) {
            return -4;
        }
        int steps = 0;
        boolean moved = true;
        while (moved) {
            moved = false;
            for (int walker = 0; walker < walkers.size(); walker++) {
                while (walkers.get(walker) != sink) {
                    move(walker);
                    steps++;
                    moved = true;
                    if (roundRobin) {
                        break;
                    }
                }
            }
        }
        return steps;
    }

    int arrivals(int node) {
        return isNode(node) ? arrived[node] : -4;
    }

    int departures(int node, int index) {
        return !isNode(node) ? -4 : !isIndex(node, index) ? -6 : departed[node][index];
    }

    /** The configurations of a single walk: the node in front, the rotors behind it. */
    private List<int[]> walk(int start, int[] firstRotors, int steps) {
        List<int[]> configurations = new ArrayList<>();
        int node = start;
        int[] turning = firstRotors.clone();
        for (int i = 0; i <= steps; i++) {
            int[] configuration = new int[1 + turning.length];
            configuration[0] = node;
            System.arraycopy(turning, 0, configuration, 1, turning.length);
            configurations.add(configuration);
            int next = graph.get(node).get(turning[node]);
            turning[node] = (turning[node] + 1) % graph.get(node).size();
            node = next;
        }
        return configurations;
    }

    int stepsToCycle(int walker) {
        if (!isWalker(walker)) {
            return -5;
        }
        List<int[]> seen = walk(walkers.get(walker), rotors, 600);
        for (int t = 0; t + 2 * links < seen.size(); t++) {
            if (Arrays.equals(seen.get(t), seen.get(t + 2 * links))) {
                return t;
            }
        }
        throw new IllegalStateException("no cycle");
    }

    private int cover(int start, int[] firstRotors) {
        Set<Integer> seen = new HashSet<>();
        List<int[]> configurations = walk(start, firstRotors, 200);
        for (int t = 0; t < configurations.size(); t++) {
            seen.add(configurations.get(t)[0]);
            if (seen.size() == graph.size()) {
                return t;
            }
        }
        throw new IllegalStateException("no cover");
    }

    int coverTime(int walker) {
        return isWalker(walker) ? cover(walkers.get(walker), rotors) : -5;
    }

    private boolean isTooLarge() {
        long assignments = 1;
        for (List<Integer> neighbors : graph) {
            assignments *= neighbors.size();
        }
        return assignments > 2000;
    }

    private List<int[]> assignments() {
        List<int[]> all = new ArrayList<>();
        all.add(new int[0]);
        for (List<Integer> neighbors : graph) {
            List<int[]> longer = new ArrayList<>();
            for (int[] assignment : all) {
                for (int index = 0; index < neighbors.size(); index++) {
                    int[] one = Arrays.copyOf(assignment, assignment.length + 1);
                    one[assignment.length] = index;
                    longer.add(one);
                }
            }
            all = longer;
        }
        return all;
    }

    private int[] best(int start) {
        int[] best = null;
        int least = Integer.MAX_VALUE;
        for (int[] assignment : assignments()) {
            int time = cover(start, assignment);
            if (time < least || time == least && Arrays.compare(assignment, best) < 0) {
                best = assignment;
                least = time;
            }
        }
        return best;
    }

    int leastCoverTime(int start) {
        return !isNode(start) ? -4 : isTooLarge() ? -8 : cover(start, best(start));
    }

    int bestRotor(int start, int node) {
        return !isNode(start) || !isNode(node) ? -4 : isTooLarge() ? -8 : best(start)[node];
    }

    long expectedArrivals(int start, int steps, int node) {
        if (!isNode(start) || !isNode(node) || steps < 0 || steps > 50) {
            return isNode(start) && isNode(node) ? -6 : -4;
        }
        double[] p = new double[graph.size()];
        p[start] = 1.0;
        double e = 0.0;
        for (int i = 0; i < steps; i++) {
            double[] q = new double[graph.size()];
            for (int v = 0; v < graph.size(); v++) {
                for (int w : graph.get(v)) {
                    q[w] += p[v] / graph.get(v).size();
                }
            }
            e += q[node];
            p = q;
        }
        return Double.doubleToLongBits(e);
    }

    private void take(Model other) {
        rotors = other.rotors.clone();
        arrived = other.arrived.clone();
        departed = new int[other.departed.length][];
        for (int node = 0; node < departed.length; node++) {
            departed[node] = other.departed[node].clone();
        }
        walkers = new ArrayList<>(other.walkers);
    }

    int snapshot() {
        if (graph.isEmpty()) {
            return -9;
        }
        kept = new Model();
        kept.take(this);
        return walkers.size();
    }

    int restore() {
        if (kept == null) {
            return -9;
        }
        take(kept);
        return walkers.size();
    }

    int walkerCount() {
        return walkers.size();
    }

    int linkCount() {
        return links;
    }

    long digest() {
        List<Long> values = new ArrayList<>();
        values.add((long) graph.size());
        values.add((long) links);
        for (int node = 0; node < graph.size(); node++) {
            values.add((long) degree(node));
            values.add((long) rotors[node]);
            values.add((long) arrived[node]);
            for (int index = 0; index < degree(node); index++) {
                values.add((long) neighbor(node, index));
                values.add((long) departed[node][index]);
            }
        }
        values.add((long) walkers.size());
        for (int walker = 0; walker < walkers.size(); walker++) {
            values.add((long) walkers.get(walker));
            values.add((long) stepsToCycle(walker));
            values.add((long) coverTime(walker));
        }
        if (!graph.isEmpty() && !isTooLarge()) {
            values.add((long) leastCoverTime(0));
        }
        if (!graph.isEmpty()) {
            values.add(expectedArrivals(0, 7, 1));
        }
        values.add((long) text.length());
        for (char code : text.toCharArray()) {
            values.add((long) code);
        }
        long hash = 1753;
        for (long value : values) {
            hash = 31 * hash + value;
        }
        return hash;
    }
}
