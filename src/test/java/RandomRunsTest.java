import java.util.Random;

/**
 * Runs of random calls, the same ones each time, that are answered by MetricStore and by Naive; at the end of a run,
 * all that can be asked is asked of both. A run has more than the promised 512 calls: the class does not count them.
 */
public final class RandomRunsTest {
    private static final int RUNS = 4000, CALLS = 600;
    private static final int[] WILD = {
        Integer.MIN_VALUE, Integer.MAX_VALUE, -1, 0, 1, 7, 8, 10, 60, 100, 1000000, 999999, 2147483640, -2147483640,
    };

    private final Random random;
    private final MetricStore store = new MetricStore();
    private final Naive naive = new Naive();
    private final int run;
    private final int stride;
    private final int greatestValue;
    private final int usedSeries;
    private final boolean manyHistograms;
    private int clock = 1;
    private int calls;

    private RandomRunsTest(int run) {
        this.run = run;
        random = new Random(run);
        stride = new int[] {2, 5, 12, 20, 70}[random.nextInt(5)];
        greatestValue = new int[] {3, 30, 1000, Integer.MAX_VALUE}[random.nextInt(4)];
        usedSeries = 1 + random.nextInt(8);
        manyHistograms = random.nextInt(3) == 0;
    }

    public static void main(String[] args) {
        for (int run = 0; run < RUNS && Check.failures() < 20; run++) {
            new RandomRunsTest(run).play();
        }
        Check.end("RandomRunsTest");
    }

    private void play() {
        for (int s = 0; s < usedSeries; s++) {
            begin(s);
        }
        for (calls = 0; calls < CALLS; calls++) {
            if (random.nextInt(100) < 55) {
                change();
            } else {
                question(random.nextInt(18));
            }
        }
        sweep();
    }

    private void begin(int series) {
        int kind = random.nextInt(manyHistograms ? 6 : 4);
        if (kind < 2) {
            due("define", store.define(series, kind), naive.define(series, kind), series, kind);
        } else if (kind > 2) {
            feedText(bounds());
            due("histogram", store.histogram(series), naive.histogram(series), series);
        }
    }

    private void due(String call, long got, long want, int... arguments) {
        if (got == want) {
            Check.due("", got, want);
            return;
        }
        StringBuilder text = new StringBuilder("run " + run + ", call " + calls + ": " + call + "(");
        for (int argument : arguments) {
            text.append(argument).append(' ');
        }
        Check.due(text.append(')').toString(), got, want);
    }

    private int wild(int ordinary) {
        return random.nextInt(40) == 0 ? WILD[random.nextInt(WILD.length)] : ordinary;
    }

    private int anySeries() {
        return wild(random.nextInt(20) == 0 ? random.nextInt(10) - 1 : random.nextInt(usedSeries));
    }

    private int anyHistogram() {
        int series = anySeries();
        for (int i = 0; i < 5 && naive.series(series, 0) != 2; i++) {
            series = anySeries();
        }
        return series;
    }

    private int below(int n) {
        return wild(random.nextInt(n + 1) - (random.nextInt(10) == 0 ? 1 : 0));
    }

    private int value() {
        int value = random.nextInt(greatestValue) + (random.nextInt(8) == 0 ? 1 : 0);
        return wild(random.nextInt(4) == 0 ? -value : value);
    }

    private void change() {
        if (random.nextInt(4) == 0) {
            clock += 1 + random.nextInt(stride);
            clock += random.nextInt(60) == 0 ? random.nextInt(200) : 0;
            clock = random.nextInt(2000) == 0 ? 999990 : Math.min(clock, 999999);
        }
        int what = random.nextInt(100);
        int series = anySeries();
        if (what < 3) {
            begin(random.nextInt(usedSeries));
        } else if (what < 5) {
            int kind = wild(random.nextInt(3));
            int rare = wild(8);
            due("define", store.define(rare, kind), naive.define(rare, kind), rare, kind);
        } else if (what < 12) {
            feedText(formula(0));
            ask();
        } else if (what < 13) {
            feedText(bounds());
            int rare = random.nextInt(4) == 0 ? series : wild(8);
            due("histogram", store.histogram(rare), naive.histogram(rare), rare);
        } else if (what < 55) {
            clock += random.nextInt(3) == 0 ? 0 : 1 + random.nextInt(stride);
            int time = wild(clock);
            addSample(series, time);
        } else if (what < 80) {
            series = anyHistogram();
            int v = wild(random.nextInt(30));
            int n = wild(1 + random.nextInt(20));
            due("observe", store.observe(series, v, n), naive.observe(series, v, n), series, v, n);
        } else if (what < 83) {
            series = anyHistogram();
            due("restart", store.restart(series), naive.restart(series), series);
        } else if (what < 86) {
            changeParameter();
        } else if (what < 95) {
            changeRow(series);
        } else if (what < 97) {
            due("image", store.image(), naive.image());
        } else if (what < 98) {
            due("undo", store.undo(), naive.undo());
        } else if (random.nextInt(4) == 0) {
            feedText(random.nextBoolean() ? formula(0) : bounds());
        } else {
            ask();
        }
    }

    private void addSample(int series, int time) {
        int v = value();
        if (naive.series(series, 0) == 2 && random.nextInt(20) > 0) {
            due("scrape", store.scrape(series, time), naive.scrape(series, time), series, time);
        } else {
            due("append", store.append(series, time, v), naive.append(series, time, v), series, time, v);
        }
    }

    private void changeParameter() {
        int what = wild(random.nextInt(2));
        int v = wild(what == 0 ? 1 + random.nextInt(2 * stride) : 1 + random.nextInt(9));
        due("parameter", store.parameter(what, v), naive.parameter(what, v), what, v);
    }

    private void changeRow(int series) {
        int from = below(4);
        int to = below(4);
        int n = below(8);
        int resolution = wild(random.nextInt(2));
        int what = below(10);
        int exact = wild(random.nextInt(2));
        switch (random.nextInt(4)) {
            case 0:
                due("copy", store.copy(from, to, n), naive.copy(from, to, n), from, to, n);
                break;
            case 1:
                due("again", store.again(from, to), naive.again(from, to), from, to);
                break;
            default:
                due("store", store.store(from, series, resolution, what, exact),
                    naive.store(from, series, resolution, what, exact), from, series, resolution, what, exact);
                break;
        }
    }

    private void feedText(String text) {
        for (int i = 0; i < text.length(); i++) {
            int sign = random.nextInt(400) == 0 ? wild(random.nextInt(128)) : text.charAt(i);
            due("feed", store.feed(sign), naive.feed(sign), sign);
        }
    }

    private void ask() {
        int time = wild(random.nextInt(5) == 0 ? 1 + random.nextInt(clock) : clock);
        due("ask", store.ask(time), naive.ask(time), time);
    }

    private String bounds() {
        StringBuilder text = new StringBuilder();
        int n = 1 + random.nextInt(6);
        int bound = random.nextInt(6);
        for (int k = 0; k < n; k++) {
            text.append(k > 0 ? "," : "").append(bound);
            bound += random.nextInt(30) == 0 ? 0 : 1 + random.nextInt(random.nextInt(30) == 0 ? 9999 : 5);
        }
        return spoil(text, "0123456789,,-");
    }

    private String spoil(StringBuilder text, String signs) {
        while (text.length() > 0 && random.nextInt(4) == 0) {
            int at = random.nextInt(text.length());
            char sign = signs.charAt(random.nextInt(signs.length()));
            switch (random.nextInt(4)) {
                case 0:
                    text.insert(at, sign);
                    break;
                case 1:
                    text.deleteCharAt(at);
                    break;
                case 2:
                    text.setLength(at);
                    break;
                default:
                    text.setCharAt(at, sign);
                    break;
            }
        }
        return text.toString();
    }

    private String formula(int depth) {
        StringBuilder text = new StringBuilder();
        int parts = 1 + random.nextInt(3);
        for (int i = 0; i < parts; i++) {
            text.append(i > 0 ? "" + "+-*/".charAt(random.nextInt(4)) : "").append(factor(depth));
        }
        return depth > 0 ? text.toString() : spoil(text, "0189+-*/(),rincavgmxsutloe-((");
    }

    private String factor(int depth) {
        int what = random.nextInt(10);
        if (what < 2) {
            return "" + random.nextInt(new int[] {2, 10, 1000, 1000000}[random.nextInt(4)]);
        }
        if (what < 3 + depth / 3 && depth < 7) {
            return "-" + factor(depth + 1);
        }
        if (what < 4 + depth && depth < 7) {
            return "(" + formula(depth + 1) + ")";
        }
        String[] names = {"rate", "inc", "avg", "min", "max", "sum", "count", "last"};
        int width = random.nextInt(10) == 0 ? 0 : random.nextInt(random.nextBoolean() ? 999999 : 10 * stride);
        return names[random.nextInt(8)] + "(" + random.nextInt(usedSeries) + "," + width + ")";
    }

    private int windowEnd(int from) {
        int to = from + random.nextInt(1 + 10 * stride) - (random.nextInt(20) == 0 ? 5 : 0);
        return wild(to);
    }

    private void question(int which) {
        int series = anySeries();
        int resolution = wild(random.nextInt(2));
        int step = resolution == 0 ? 10 : 60;
        int a = wild(Math.max(-1, clock - random.nextInt(random.nextInt(3) == 0 ? clock + 1 : 30 * stride)));
        int b = windowEnd(a);
        int a2 = random.nextInt(20) == 0 ? a : Math.floorDiv(a, step) * step;
        int b2 = random.nextInt(20) == 0 ? b : Math.floorDiv(b, step) * step;
        int what = below(10);
        int set = wild(random.nextInt(9) == 0 ? random.nextInt(256) : someHistograms());
        switch (which) {
            case 0:
                int property = wild(random.nextInt(28));
                due("series", store.series(series, property), naive.series(series, property), series, property);
                break;
            case 1:
                int i = below(20);
                int part = wild(random.nextInt(18));
                due("sample", store.sample(series, i, part), naive.sample(series, i, part), series, i, part);
                break;
            case 2:
                due("window", store.window(series, a, b, what), naive.window(series, a, b, what), series, a, b, what);
                break;
            case 3:
                due("rolled", store.rolled(series, resolution, a2, b2, what),
                    naive.rolled(series, resolution, a2, b2, what), series, resolution, a2, b2, what);
                break;
            case 4:
                due("differs", store.differs(series, resolution, a2, b2),
                    naive.differs(series, resolution, a2, b2), series, resolution, a2, b2);
                break;
            case 5:
                int index = below(30);
                due("rollup", store.rollup(series, resolution, index, what),
                    naive.rollup(series, resolution, index, what), series, resolution, index, what);
                break;
            case 6:
                int k = wild(random.nextInt(clock / 60 + 2));
                due("fused", store.fused(series, k, what), naive.fused(series, k, what), series, k, what);
                break;
            case 7:
                due("rateBits", store.rateBits(series, a, b), naive.rateBits(series, a, b), series, a, b);
                break;
            case 8:
                series = anyHistogram();
                int bucket = below(6);
                due("bucket", store.bucket(series, a, b, bucket), naive.bucket(series, a, b, bucket), series, a, b, bucket);
                break;
            case 9:
            case 10:
                int number = wild(random.nextInt(28));
                due("merged", store.merged(set, a, b, number), naive.merged(set, a, b, number), set, a, b, number);
                break;
            case 11:
            case 17:
                a = random.nextInt(4) == 0 ? a : Math.max(0, a - 30 * stride);
                int q = wild(1 + random.nextInt(100));
                int of = wild(random.nextInt(2));
                due("quantile", store.quantile(set, a, b, q, of), naive.quantile(set, a, b, q, of), set, a, b, q, of);
                break;
            default:
                smallQuestion(which);
                break;
        }
    }

    private int someHistograms() {
        int set = 0;
        int chosen = random.nextInt(4) == 0 ? 255 : 1 << random.nextInt(usedSeries) | 1 << random.nextInt(usedSeries);
        for (int i = 0; i < 8; i++) {
            set |= naive.series(i, 0) == 2 && (random.nextInt(3) == 0 || (chosen >> i & 1) == 1) ? 1 << i : 0;
        }
        return set;
    }

    private void smallQuestion(int which) {
        int i = below(5);
        int k = wild(random.nextInt(20) - 1);
        switch (which) {
            case 12:
                due("answerBits", store.answerBits(), naive.answerBits());
                break;
            case 13:
            case 14:
                due("step", store.step(i, k), naive.step(i, k), i, k);
                break;
            case 15:
                due("explained", store.explained(i, k), naive.explained(i, k), i, k);
                break;
            default:
                due("element", store.element(i, k), naive.element(i, k), i, k);
                due("count", store.count(k), naive.count(k), k);
                break;
        }
    }

    // More than 512 calls in all: the class counts no calls, so what it holds can be looked at whole.
    private void sweep() {
        due("answerBits", store.answerBits(), naive.answerBits());
        for (int what = -1; what < 11; what++) {
            due("count", store.count(what), naive.count(what), what);
        }
        for (int s = 0; s < 8; s++) {
            sweepSeries(s);
        }
        for (int i = 0; i < 8; i++) {
            for (int k = -1; k < 30; k++) {
                due("step", store.step(i, k), naive.step(i, k), i, k);
                due("explained", store.explained(i, k), naive.explained(i, k), i, k);
            }
        }
        for (int row = 0; row < 4; row++) {
            for (int i = 0; i < 41; i++) {
                due("element", store.element(row, i), naive.element(row, i), row, i);
            }
        }
    }

    private void sweepSeries(int s) {
        for (int what = 0; what < 28; what++) {
            due("series", store.series(s, what), naive.series(s, what), s, what);
        }
        int kept = store.series(s, 1);
        for (int i = 0; i <= kept; i++) {
            for (int what = 0; what < 18; what++) {
                due("sample", store.sample(s, i, what), naive.sample(s, i, what), s, i, what);
            }
        }
        for (int k = 0; k < 7; k++) {
            due("bucket", store.bucket(s, -1, clock, k), naive.bucket(s, -1, clock, k), s, k);
        }
        for (int resolution = 0; resolution < 2; resolution++) {
            int step = resolution == 0 ? 10 : 60;
            int to = (clock / step + 1) * step;
            for (int what = 0; what < 10; what++) {
                due("rolled", store.rolled(s, resolution, 0, to, what), naive.rolled(s, resolution, 0, to, what), s);
            }
            int last = store.series(s, 5 + resolution);
            for (int i = 0; i <= last; i += 7) {
                for (int what = 0; what < 11; what++) {
                    due("rollup", store.rollup(s, resolution, i, what), naive.rollup(s, resolution, i, what), s, i, what);
                }
            }
        }
    }
}
