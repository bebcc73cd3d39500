/** Compares answers with those that are due, and ends a test. */
final class Check {
    private int compared = 0;
    private int wrong = 0;
    private int sentences = 0;
    private String heading = "";

    /** Runs the test of one sentence of the document, which stands by itself: what one throws stops no other. */
    void sentence(String place, String text, Runnable test) {
        sentences++;
        heading = place + ", \"" + text + "\": ";
        int before = compared;
        try {
            test.run();
        } catch (RuntimeException thrown) {
            tellWrong("threw " + thrown);
        }
        if (compared == before) {
            tellWrong("nothing was compared");
        }
        heading = "";
    }

    void due(String call, long got, long want) {
        compared++;
        if (got != want) {
            tellWrong(call + " answered " + got + ", due is " + want);
        }
    }

    void holds(String what, boolean held) {
        due(what, held ? 1 : 0, 1);
    }

    void same(String what, String got, String want) {
        compared++;
        if (!got.equals(want)) {
            tellWrong(what + ": there is " + got + ", due is " + want);
        }
    }

    void finish() {
        System.out.println((sentences == 0 ? "" : sentences + " sentences, ")
            + compared + " answers compared, " + wrong + " wrong");
        if (wrong != 0 || compared == 0) {
            System.exit(1);
        }
    }

    private void tellWrong(String what) {
        wrong++;
        System.out.println(heading + what);
    }

    /** The digest of these values. */
    static long hash(long... values) {
        long hash = 1753;
        for (long value : values) {
            hash = 31 * hash + value;
        }
        return hash;
    }
}
