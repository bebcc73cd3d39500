/** Objects and graphs that many tests begin with, and what can be seen of an object. */
final class Routers {
    static final String PATH = "3:01,12";
    static final String TRIANGLE = "3:01,12,20";
    static final String SQUARE = "4:01,12,23,30,02";
    /** As many nodes and links as there may be. */
    static final String CUBE = "8:01,12,23,34,45,56,67,70,04,15,26,37";
    static final String ASSIGNMENTS_2000 = "8:01,12,20,03,04,05,13,16,17,24,25,26";
    /** No graph of at most 8 nodes and 12 links has 2001 to 2015 assignments. */
    static final String ASSIGNMENTS_2016 = "8:15,53,45,13,67,43,30,73,65,63,10,32";

    private Routers() {
    }

    /** 0 - 1 - 2 - .. */
    static String path(int nodes) {
        StringBuilder text = new StringBuilder().append(nodes).append(':');
        for (int node = 1; node < nodes; node++) {
            text.append(node == 1 ? "" : ",").append(node - 1).append(node);
        }
        return text.toString();
    }

    /** All other nodes, in ascending order, are neighbors of the last. */
    static String star(int nodes) {
        StringBuilder text = new StringBuilder().append(nodes).append(':');
        for (int node = 0; node < nodes - 1; node++) {
            text.append(node == 0 ? "" : ",").append(nodes - 1).append(node);
        }
        return text.toString();
    }

    static void type(RotorRouter router, String text) {
        for (int i = 0; i < text.length(); i++) {
            router.append(text.charAt(i));
        }
    }

    static RotorRouter typed(String text) {
        RotorRouter router = new RotorRouter();
        type(router, text);
        return router;
    }

    static RotorRouter loaded(String text) {
        RotorRouter router = typed(text);
        int nodes = router.load();
        if (nodes != text.charAt(0) - '0') {
            throw new IllegalStateException(text + " does not load: " + nodes);
        }
        return router;
    }

    /** Walkers, turned rotors, a snapshot of something else, and some input. */
    static RotorRouter busy(String graph, int walkers, String input) {
        RotorRouter router = loaded(graph);
        router.addWalker(1);
        router.step(0, 5);
        router.snapshot();
        for (int walker = 1; walker < walkers; walker++) {
            router.addWalker(walker % 2);
            router.step(walker, 3 + walker);
        }
        router.setRotor(0, router.degree(0) - 1);
        type(router, input);
        return router;
    }

    /** Numbers that are not 0 to count - 1, some of which look like them if bits are cut off. */
    static int[] outside(int count) {
        return new int[] {
            -1, count, count + 1, -2, -count, 1 << 8, 1 << 16, 1 << 31, (1 << 31) + 1, Integer.MAX_VALUE,
        };
    }

    /** All that the object tells without being changed; at most some 130 calls. */
    static String seen(RotorRouter router) {
        StringBuilder text = new StringBuilder();
        text.append("links ").append(router.linkCount()).append(" walkers ").append(router.walkerCount());
        for (int node = 0; node < 8 && router.degree(node) >= 0; node++) {
            text.append("; node ").append(node).append(" rotor ").append(router.rotor(node));
            text.append(" arrivals ").append(router.arrivals(node));
            for (int index = 0; index < 8 && router.neighbor(node, index) >= 0; index++) {
                text.append(" to ").append(router.neighbor(node, index));
                text.append(" departures ").append(router.departures(node, index));
            }
        }
        for (int walker = 0; walker < 5 && router.position(walker) >= 0; walker++) {
            text.append("; walker at ").append(router.position(walker));
            text.append(" cycle ").append(router.stepsToCycle(walker));
            text.append(" cover ").append(router.coverTime(walker));
        }
        text.append("; error ").append(router.firstError()).append(" digest ").append(router.digest());
        return text.toString();
    }
}
