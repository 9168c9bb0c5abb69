/** Counts the answers that are due, and prints those that are not. */
final class Check {
    private static int passed;
    private static int failed;

    private Check() {
    }

    static void due(String call, long got, long want) {
        if (got == want) {
            passed++;
            return;
        }
        failed++;
        if (failed <= 50) {
            System.out.println(call + " answered " + got + ", due is " + want);
        }
    }

    static void due(String call, String got, String want) {
        if (!got.equals(want)) {
            System.out.println(call + " answered \"" + got + "\", due is \"" + want + "\"");
        }
        due(call, got.equals(want) ? 1 : 0, 1);
    }

    static int failures() {
        return failed;
    }

    /** To be called last: tells the counts, and ends the program with exit code 1 if an answer was wrong. */
    static void end(String what) {
        System.out.println(what + ": " + passed + " answers as due, " + failed + " not");
        if (failed > 0 || passed == 0) {
            System.exit(1);
        }
    }

    /** Feeds a text to the tape. */
    static void feed(MetricStore store, String text) {
        for (int i = 0; i < text.length(); i++) {
            int length = store.feed(text.charAt(i));
            if (length < 1) {
                due("feed of " + text + " at " + i, length, i + 1);
            }
        }
    }

    static int histogram(MetricStore store, int series, String bounds) {
        feed(store, bounds);
        return store.histogram(series);
    }

    static int ask(MetricStore store, String formula, int time) {
        feed(store, formula);
        return store.ask(time);
    }

    static String explained(MetricStore store, int i) {
        StringBuilder text = new StringBuilder();
        int length = store.explained(i, -1);
        for (int k = 0; k < length; k++) {
            text.append((char) store.explained(i, k));
        }
        return text.toString();
    }
}
