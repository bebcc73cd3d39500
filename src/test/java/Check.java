/** Compares answers with those that are due, and ends a test. */
final class Check {
    private int compared = 0;
    private int wrong = 0;

    void due(String call, long got, long want) {
        compared++;
        if (got != want) {
            wrong++;
            System.out.println(call + " answered " + got + ", due is " + want);
        }
    }

    void holds(String what, boolean held) {
        due(what, held ? 1 : 0, 1);
    }

    void finish() {
        System.out.println(compared + " answers compared, " + wrong + " wrong");
        if (wrong != 0 || compared == 0) {
            System.exit(1);
        }
    }

    static void type(RotorRouter router, String text) {
        for (int i = 0; i < text.length(); i++) {
            router.append(text.charAt(i));
        }
    }

    static RotorRouter loaded(String text) {
        RotorRouter router = new RotorRouter();
        type(router, text);
        int nodes = router.load();
        if (nodes != text.charAt(0) - '0') {
            throw new IllegalStateException(text + " does not load: " + nodes);
        }
        return router;
    }
}
