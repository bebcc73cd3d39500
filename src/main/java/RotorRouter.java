/** A simulator of rotor-router walks (Propp machines) on small connected undirected graphs. */
public final class RotorRouter {
    public static final int BAD_CHARACTER = -1;
    public static final int BUFFER_FULL = -2;
    public static final int INVALID_INPUT = -3;
    public static final int NO_SUCH_NODE = -4;
    public static final int NO_SUCH_WALKER = -5;
    public static final int OUT_OF_RANGE = -6;
    public static final int TOO_MANY_WALKERS = -7;
    public static final int TOO_LARGE = -8;
    public static final int NO_SNAPSHOT = -9;

    private static final int MAX_CODES = 40;
    private static final int MAX_NODES = 8;
    private static final int MAX_DEGREE = MAX_NODES - 1;
    private static final int MAX_LINKS = 12;
    private static final int MAX_WALKERS = 4;
    private static final int MAX_STEPS = 1000;
    private static final int MAX_ASSIGNMENTS = 2000;
    private static final int MAX_RANDOM_STEPS = 50;

    /**
     * A walk covers its graph, meets a sink and enters its cycle within some 2 * links * diameter
     * steps, 168 here; the bound only makes the end of each loop visible.
     */
    private static final int STEP_BOUND = 1000000;

    private static final long DIGEST_START = 1753L;
    private static final int DIGEST_RANDOM_STEPS = 7;

    private static final int FRACTION_BITS = 52;
    private static final long FRACTION_UNIT = 1L << FRACTION_BITS;
    private static final int EXPONENT_BIAS = 1023;

    private final InputText input = new InputText();
    private final Graph graph = new Graph();
    private final State current = new State();
    private final State kept = new State();
    private boolean hasKept = false;

    // The analyses use these rows again and again, so that no call makes objects.
    private final Probe probe = new Probe();
    private final Probe probeAhead = new Probe();
    private final int[] trialRotors = new int[MAX_NODES];
    private final int[] bestRotors = new int[MAX_NODES];
    private final double[] chances = new double[MAX_NODES];
    private final double[] nextChances = new double[MAX_NODES];

    public RotorRouter() {
    }

    public int append(int code) {
        if (code < 32 || code > 126) {
            return BAD_CHARACTER;
        }
        if (input.length >= MAX_CODES) {
            return BUFFER_FULL;
        }
        input.codes[input.length] = code;
        input.length++;
        return input.length;
    }

    public int clearInput() {
        int length = input.length;
        input.length = 0;
        return length;
    }

    public int firstError() {
        return input.firstBrokenIndex();
    }

    public int load() {
        if (!input.isComplete() || !input.isConnected()) {
            return INVALID_INPUT;
        }
        graph.build(input);
        current.reset();
        hasKept = false;
        input.length = 0;
        return graph.nodes;
    }

    public int degree(int node) {
        if (!graph.hasNode(node)) {
            return NO_SUCH_NODE;
        }
        return graph.degrees[node];
    }

    public int neighbor(int node, int index) {
        int error = graph.neighborError(node, index);
        if (error != 0) {
            return error;
        }
        return graph.neighbors[Graph.slot(node, index)];
    }

    public int rotor(int node) {
        if (!graph.hasNode(node)) {
            return NO_SUCH_NODE;
        }
        return current.rotors[node];
    }

    public int setRotor(int node, int index) {
        int error = graph.neighborError(node, index);
        if (error != 0) {
            return error;
        }
        int previous = current.rotors[node];
        current.rotors[node] = index;
        return previous;
    }

    public int addWalker(int node) {
        if (!graph.hasNode(node)) {
            return NO_SUCH_NODE;
        }
        if (current.walkers >= MAX_WALKERS) {
            return TOO_MANY_WALKERS;
        }
        int walker = current.walkers;
        current.positions[walker] = node;
        current.walkers++;
        return walker;
    }

    public int position(int walker) {
        if (!current.hasWalker(walker)) {
            return NO_SUCH_WALKER;
        }
        return current.positions[walker];
    }

    public int step(int walker, int steps) {
        if (!current.hasWalker(walker)) {
            return NO_SUCH_WALKER;
        }
        if (steps < 1 || steps > MAX_STEPS) {
            return OUT_OF_RANGE;
        }
        for (int made = 0; made < steps; made++) {
            current.move(walker, graph);
        }
        return current.positions[walker];
    }

    public int absorb(int sink, boolean roundRobin) {
        if (!graph.hasNode(sink)) {
            return NO_SUCH_NODE;
        }
        return roundRobin ? absorbInTurns(sink) : absorbOneByOne(sink);
    }

    public int arrivals(int node) {
        if (!graph.hasNode(node)) {
            return NO_SUCH_NODE;
        }
        return current.arrived[node];
    }

    public int departures(int node, int index) {
        int error = graph.neighborError(node, index);
        if (error != 0) {
            return error;
        }
        return current.departed[Graph.slot(node, index)];
    }

    public int stepsToCycle(int walker) {
        if (!current.hasWalker(walker)) {
            return NO_SUCH_WALKER;
        }
        int period = 2 * graph.links;
        probe.start(current.positions[walker], current.rotors);
        probeAhead.start(current.positions[walker], current.rotors);
        for (int made = 0; made < period; made++) {
            probeAhead.move(graph);
        }
        int steps = 0;
        while (steps < STEP_BOUND && !probe.isSameAs(probeAhead, graph.nodes)) {
            probe.move(graph);
            probeAhead.move(graph);
            steps++;
        }
        return steps;
    }

    public int coverTime(int walker) {
        if (!current.hasWalker(walker)) {
            return NO_SUCH_WALKER;
        }
        return coverTimeBelow(STEP_BOUND, current.positions[walker], current.rotors);
    }

    public int leastCoverTime(int start) {
        if (!graph.hasNode(start)) {
            return NO_SUCH_NODE;
        }
        if (graph.assignments() > MAX_ASSIGNMENTS) {
            return TOO_LARGE;
        }
        return searchAssignments(start);
    }

    public int bestRotor(int start, int node) {
        if (!graph.hasNode(start) || !graph.hasNode(node)) {
            return NO_SUCH_NODE;
        }
        if (graph.assignments() > MAX_ASSIGNMENTS) {
            return TOO_LARGE;
        }
        searchAssignments(start);
        return bestRotors[node];
    }

    public long expectedArrivals(int start, int steps, int node) {
        if (!graph.hasNode(start) || !graph.hasNode(node)) {
            return NO_SUCH_NODE;
        }
        if (steps < 0 || steps > MAX_RANDOM_STEPS) {
            return OUT_OF_RANGE;
        }
        for (int v = 0; v < graph.nodes; v++) {
            chances[v] = v == start ? 1.0 : 0.0;
        }
        double expected = 0.0;
        for (int made = 0; made < steps; made++) {
            spreadChances();
            expected += chances[node];
        }
        return bitsOf(expected);
    }

    public int snapshot() {
        if (graph.nodes == 0) {
            return NO_SNAPSHOT;
        }
        kept.copyFrom(current);
        hasKept = true;
        return current.walkers;
    }

    public int restore() {
        if (!hasKept) {
            return NO_SNAPSHOT;
        }
        current.copyFrom(kept);
        return current.walkers;
    }

    public int walkerCount() {
        return current.walkers;
    }

    public int linkCount() {
        return graph.links;
    }

    public long digest() {
        long hash = hashed(DIGEST_START, graph.nodes);
        hash = hashed(hash, graph.links);
        for (int node = 0; node < graph.nodes; node++) {
            hash = hashedNode(hash, node);
        }
        hash = hashed(hash, current.walkers);
        for (int walker = 0; walker < current.walkers; walker++) {
            hash = hashed(hash, current.positions[walker]);
            hash = hashed(hash, stepsToCycle(walker));
            hash = hashed(hash, coverTime(walker));
        }
        if (graph.nodes > 0) {
            hash = hashedAnalysis(hash);
        }
        return hashedInput(hash);
    }

    private int absorbOneByOne(int sink) {
        int steps = 0;
        for (int walker = 0; walker < current.walkers; walker++) {
            while (current.positions[walker] != sink && steps < STEP_BOUND) {
                current.move(walker, graph);
                steps++;
            }
        }
        return steps;
    }

    private int absorbInTurns(int sink) {
        int steps = 0;
        for (int pass = 0; pass < STEP_BOUND; pass++) {
            int made = makePass(sink);
            if (made == 0) {
                return steps;
            }
            steps += made;
        }
        return steps;
    }

    private int makePass(int sink) {
        int made = 0;
        for (int walker = 0; walker < current.walkers; walker++) {
            if (current.positions[walker] != sink) {
                current.move(walker, graph);
                made++;
            }
        }
        return made;
    }

    /** The cover time if it is below the limit; the limit otherwise. */
    private int coverTimeBelow(int limit, int start, int[] rotors) {
        probe.start(start, rotors);
        int all = (1 << graph.nodes) - 1;
        int seen = 1 << start;
        int steps = 0;
        while (seen != all && steps < limit) {
            probe.move(graph);
            seen |= 1 << probe.node;
            steps++;
        }
        return steps;
    }

    /** Leaves the best assignment in bestRotors. */
    private int searchAssignments(int start) {
        for (int node = 0; node < graph.nodes; node++) {
            trialRotors[node] = 0;
        }
        int assignments = graph.assignments();
        // No walk sees all nodes in fewer steps than this, so the first that needs no more is best.
        int ideal = graph.nodes - 1;
        int least = STEP_BOUND;
        for (int tried = 0; tried < assignments && least > ideal; tried++) {
            int time = coverTimeBelow(least, start, trialRotors);
            if (time < least) {
                least = time;
                System.arraycopy(trialRotors, 0, bestRotors, 0, MAX_NODES);
            }
            turnTrialRotors();
        }
        return least;
    }

    /** The last node turns fastest: of equal assignments the search has to meet the best first. */
    private void turnTrialRotors() {
        for (int node = graph.nodes - 1; node >= 0; node--) {
            trialRotors[node] = graph.rotorAfter(node, trialRotors[node]);
            if (trialRotors[node] != 0) {
                return;
            }
        }
    }

    /** The order of the sums is the document's, for another order may round differently. */
    private void spreadChances() {
        for (int v = 0; v < graph.nodes; v++) {
            nextChances[v] = 0.0;
        }
        for (int v = 0; v < graph.nodes; v++) {
            for (int index = 0; index < graph.degrees[v]; index++) {
                int w = graph.neighbors[Graph.slot(v, index)];
                nextChances[w] += chances[v] / graph.degrees[v];
            }
        }
        for (int v = 0; v < graph.nodes; v++) {
            chances[v] = nextChances[v];
        }
    }

    /**
     * What Double.doubleToLongBits answers for a finite value that is not negative: that function is
     * not in the library that the program keeps to. Scaling by two never rounds.
     */
    private static long bitsOf(double value) {
        if (value <= 0.0) {
            return 0L;
        }
        double scaled = value;
        int exponent = 0;
        while (scaled >= 2.0 && exponent < EXPONENT_BIAS) {
            scaled = scaled / 2.0;
            exponent++;
        }
        while (scaled < 1.0 && exponent > 1 - EXPONENT_BIAS) {
            scaled = scaled * 2.0;
            exponent--;
        }
        long fraction = (long) ((scaled - 1.0) * (double) FRACTION_UNIT);
        return (exponent + EXPONENT_BIAS) * FRACTION_UNIT + fraction;
    }

    private static long hashed(long hash, long value) {
        return 31L * hash + value;
    }

    private long hashedNode(long before, int node) {
        long hash = hashed(before, graph.degrees[node]);
        hash = hashed(hash, current.rotors[node]);
        hash = hashed(hash, current.arrived[node]);
        for (int index = 0; index < graph.degrees[node]; index++) {
            int slot = Graph.slot(node, index);
            hash = hashed(hash, graph.neighbors[slot]);
            hash = hashed(hash, current.departed[slot]);
        }
        return hash;
    }

    private long hashedAnalysis(long before) {
        long hash = before;
        if (graph.assignments() <= MAX_ASSIGNMENTS) {
            hash = hashed(hash, searchAssignments(0));
        }
        return hashed(hash, expectedArrivals(0, DIGEST_RANDOM_STEPS, 1));
    }

    private long hashedInput(long before) {
        long hash = hashed(before, input.length);
        for (int index = 0; index < input.length; index++) {
            hash = hashed(hash, input.codes[index]);
        }
        return hash;
    }

    /** The input buffer and the syntax rules. */
    private static final class InputText {
        private static final int FIRST_LINK_INDEX = 2;
        private static final int GROUP_LENGTH = 3;
        private static final int LAST_COMMA_INDEX = FIRST_LINK_INDEX + GROUP_LENGTH * (MAX_LINKS - 1) - 1;

        final int[] codes = new int[MAX_CODES];
        int length = 0;

        int firstBrokenIndex() {
            int index = 0;
            while (index < length && keepsRules(index)) {
                index++;
            }
            return index;
        }

        boolean isComplete() {
            return length > FIRST_LINK_INDEX
                && placeInGroup(length - 1) == 1
                && firstBrokenIndex() == length;
        }

        /** Asks for a complete input. */
        boolean isConnected() {
            int reached = 1;
            for (int round = 1; round < nodes(); round++) {
                for (int link = 0; link < links(); link++) {
                    int ends = 1 << firstNode(link) | 1 << secondNode(link);
                    if ((reached & ends) != 0) {
                        reached |= ends;
                    }
                }
            }
            return reached == (1 << nodes()) - 1;
        }

        int nodes() {
            return codes[0] - '0';
        }

        int links() {
            return (length - 1) / GROUP_LENGTH;
        }

        int firstNode(int link) {
            return codes[FIRST_LINK_INDEX + GROUP_LENGTH * link] - '0';
        }

        int secondNode(int link) {
            return codes[FIRST_LINK_INDEX + GROUP_LENGTH * link + 1] - '0';
        }

        /** Asks for an index before which no character breaks a rule. */
        private boolean keepsRules(int index) {
            int code = codes[index];
            if (index == 0) {
                return code >= '2' && code <= '8';
            }
            if (index == 1) {
                return code == ':';
            }
            int place = placeInGroup(index);
            if (place == 0) {
                return isNode(code);
            }
            if (place == 1) {
                return isNode(code) && code != codes[index - 1] && isNewLink(index);
            }
            return code == ',' && index <= LAST_COMMA_INDEX;
        }

        private static int placeInGroup(int index) {
            return (index - FIRST_LINK_INDEX) % GROUP_LENGTH;
        }

        private boolean isNode(int code) {
            return code >= '0' && code < codes[0];
        }

        private boolean isNewLink(int secondIndex) {
            int first = codes[secondIndex - 1];
            int second = codes[secondIndex];
            for (int index = FIRST_LINK_INDEX; index < secondIndex - 1; index += GROUP_LENGTH) {
                boolean same = codes[index] == first && codes[index + 1] == second;
                boolean reversed = codes[index] == second && codes[index + 1] == first;
                if (same || reversed) {
                    return false;
                }
            }
            return true;
        }
    }

    /** The graph that is loaded; without one it has no nodes. */
    private static final class Graph {
        final int[] degrees = new int[MAX_NODES];
        final int[] neighbors = new int[MAX_NODES * MAX_DEGREE];
        int nodes = 0;
        int links = 0;

        static int slot(int node, int index) {
            return node * MAX_DEGREE + index;
        }

        /** Asks for a complete input, whose rules keep every degree within its row. */
        void build(InputText text) {
            nodes = text.nodes();
            links = text.links();
            for (int node = 0; node < MAX_NODES; node++) {
                degrees[node] = 0;
            }
            for (int link = 0; link < links; link++) {
                int first = text.firstNode(link);
                int second = text.secondNode(link);
                addNeighbor(first, second);
                addNeighbor(second, first);
            }
        }

        boolean hasNode(int node) {
            return node >= 0 && node < nodes;
        }

        /** Answers 0 if the node and its neighbor exist. */
        int neighborError(int node, int index) {
            if (!hasNode(node)) {
                return NO_SUCH_NODE;
            }
            return index >= 0 && index < degrees[node] ? 0 : OUT_OF_RANGE;
        }

        int rotorAfter(int node, int rotor) {
            int turned = rotor + 1;
            return turned == degrees[node] ? 0 : turned;
        }

        int assignments() {
            int count = 1;
            for (int node = 0; node < nodes; node++) {
                count *= degrees[node];
            }
            return count;
        }

        private void addNeighbor(int node, int other) {
            neighbors[slot(node, degrees[node])] = other;
            degrees[node]++;
        }
    }

    /** What steps change, and what a snapshot keeps. */
    private static final class State {
        final int[] rotors = new int[MAX_NODES];
        final int[] arrived = new int[MAX_NODES];
        final int[] departed = new int[MAX_NODES * MAX_DEGREE];
        final int[] positions = new int[MAX_WALKERS];
        int walkers = 0;

        void reset() {
            for (int node = 0; node < MAX_NODES; node++) {
                rotors[node] = 0;
                arrived[node] = 0;
            }
            for (int slot = 0; slot < MAX_NODES * MAX_DEGREE; slot++) {
                departed[slot] = 0;
            }
            walkers = 0;
        }

        void copyFrom(State other) {
            System.arraycopy(other.rotors, 0, rotors, 0, MAX_NODES);
            System.arraycopy(other.arrived, 0, arrived, 0, MAX_NODES);
            System.arraycopy(other.departed, 0, departed, 0, MAX_NODES * MAX_DEGREE);
            System.arraycopy(other.positions, 0, positions, 0, MAX_WALKERS);
            walkers = other.walkers;
        }

        boolean hasWalker(int walker) {
            return walker >= 0 && walker < walkers;
        }

        void move(int walker, Graph graph) {
            int from = positions[walker];
            int slot = Graph.slot(from, rotors[from]);
            int to = graph.neighbors[slot];
            departed[slot]++;
            arrived[to]++;
            rotors[from] = graph.rotorAfter(from, rotors[from]);
            positions[walker] = to;
        }
    }

    /** A single walker with rotors of its own, so that an analysis changes nothing. */
    private static final class Probe {
        final int[] rotors = new int[MAX_NODES];
        int node = 0;

        void start(int startNode, int[] startRotors) {
            node = startNode;
            System.arraycopy(startRotors, 0, rotors, 0, MAX_NODES);
        }

        void move(Graph graph) {
            int from = node;
            node = graph.neighbors[Graph.slot(from, rotors[from])];
            rotors[from] = graph.rotorAfter(from, rotors[from]);
        }

        boolean isSameAs(Probe other, int nodes) {
            if (node != other.node) {
                return false;
            }
            for (int v = 0; v < nodes; v++) {
                if (rotors[v] != other.rotors[v]) {
                    return false;
                }
            }
            return true;
        }
    }
}
