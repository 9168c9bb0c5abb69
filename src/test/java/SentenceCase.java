import java.util.function.IntToLongFunction;

/** What the tests of single sentences share. */
abstract class SentenceCase {
    static final int NONE = -1, BAD = -2, STATE = -3, FULL = -4, MISSING = -5;
    static final long NO = Long.MIN_VALUE;
    static final int LEAST = Integer.MIN_VALUE, MOST = Integer.MAX_VALUE;
    static final int COUNTER = 0, GAUGE = 1;
    static final String[] NAMES = {"rate", "inc", "avg", "min", "max", "sum", "count", "last"};

    static void of(String section, String sentence) {
        Sentences.begin(section, sentence);
    }

    static void due(long got, long want) {
        Sentences.due(got, want);
    }

    /** Each of these arguments is answered so. */
    static void dueEach(long want, IntToLongFunction call, int... arguments) {
        for (int argument : arguments) {
            due(call.applyAsLong(argument), want);
        }
    }

    /** Numbers of series that there are not. */
    static void dueNoSeries(long want, IntToLongFunction call) {
        dueEach(want, call, -1, 8, LEAST, MOST);
    }

    static int bits(double value) {
        return Float.floatToIntBits((float) value);
    }

    /** The measures 0 and further, in turn. */
    static void dueMeasures(IntToLongFunction call, long... wanted) {
        for (int what = 0; what < wanted.length; what++) {
            due(call.applyAsLong(what), wanted[what]);
        }
    }

    static final long[] NOTHING = {0, 0, 0, 0, 0, NO, NO, 0, NO, NO};

    /** A store whose series 0 is of this kind and has these samples: time, value, time, value .. */
    static MetricStore store(int kind, int... samples) {
        MetricStore x = new MetricStore();
        x.define(0, kind);
        append(x, 0, samples);
        return x;
    }

    static void append(MetricStore x, int series, int... samples) {
        for (int i = 0; i < samples.length; i += 2) {
            if (x.append(series, samples[i], samples[i + 1]) < 1) {
                due(0, samples[i]);
            }
        }
    }

    /** Samples at the times from .. to, each with its time as its value. */
    static void appendEach(MetricStore x, int series, int from, int to) {
        for (int time = from; time <= to; time++) {
            append(x, series, time, time);
        }
    }

    /** A store whose series 0 is a histogram with these bounds. */
    static MetricStore histogram(String bounds) {
        MetricStore x = new MetricStore();
        Check.histogram(x, 0, bounds);
        return x;
    }

    /** Observes n each of the numbers v, v, .. */
    static void observe(MetricStore x, int series, int n, int... numbers) {
        for (int v : numbers) {
            if (x.observe(series, v, n) < 0) {
                due(0, v);
            }
        }
    }

    /** A sample at 1 with counts 0, and one at 2 with one observation of each of these numbers. */
    static MetricStore observed(String bounds, int... numbers) {
        MetricStore x = histogram(bounds);
        x.scrape(0, 1);
        observe(x, 0, 1, numbers);
        x.scrape(0, 2);
        return x;
    }

    static void dueValue(MetricStore x, String formula, int time, double want) {
        due(Check.ask(x, formula, time), 1);
        due(x.answerBits(), bits(want));
    }

    static void dueNoValue(MetricStore x, String formula, int time) {
        due(Check.ask(x, formula, time), 0);
        due(x.answerBits(), STATE);
    }

    static void dueWrong(String formula, int position) {
        due(Check.ask(new MetricStore(), formula, 1), -100 - position);
    }

    static void dueText(String got, String want) {
        due(got.equals(want) ? 1 : 0, 1);
    }
}
