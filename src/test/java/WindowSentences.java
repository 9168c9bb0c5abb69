/** The promises 12 to 20: windows, rollups, merges. */
final class WindowSentences extends SentenceCase {
    private WindowSentences() {
    }

    static void test() {
        window();
        rolled();
        differs();
        rollup();
        fused();
        rateBits();
        bucket();
        merged();
        mergedErrors();
        quantile();
        quantileErrors();
    }

    /** Of both pairs of samples in one window of 10 or 60, one is a reset; a gap is before the last sample. */
    private static MetricStore plain() {
        return store(COUNTER, 5, 10, 12, 15, 20, 4, 60, 9, 61, 9);
    }

    private static void window() {
        of("12", "Returns a measure of a window by the kept samples");
        MetricStore x = store(COUNTER);
        appendEach(x, 0, 1, 64);
        due(x.window(0, 0, 99, 0), 64);
        appendEach(x, 0, 65, 65);
        dueMeasures(what -> x.window(0, 0, 8, what), NOTHING);
        dueMeasures(what -> x.window(0, 0, 9, what), 1, 0, 0, 1, 1, 9, 9, 9, 9, 9);
        due(x.window(0, 0, 99, 0), 57);
        x.parameter(1, 1);
        dueMeasures(what -> x.window(0, 0, 99, what), 1, 0, 0, 1, 1, 65, 65, 65, 65, 65);
        of("12", "what: the measure, 0 to 9");
        MetricStore y = plain();
        dueMeasures(what -> y.window(0, 0, 99, what), 5, 1, 1, 9, 16, 4, 15, 47, 10, 9, NO);
        due(y.window(0, 0, 99, -1), NO);
        of("12", "NO if there is no such series, it is undefined, what is invalid, a is greater than b, or the measure does "
            + "not exist");
        dueNoSeries(NO, s -> y.window(s, 0, 99, 0));
        dueEach(NO, s -> y.window(s, 0, 99, 0), 1, 7);
        dueEach(NO, what -> y.window(0, 0, 99, what), -1, 10, 11, LEAST, MOST);
        due(y.window(0, 20, 19, 0), NO);
        due(y.window(0, 20, 20, 0), 0);
        due(y.window(0, MOST, LEAST, 0), NO);
        due(y.window(0, 0, LEAST, 0), NO);
        dueEach(NO, what -> y.window(0, 20, 59, what), 5, 6, 8, 9);
        dueEach(0, what -> y.window(0, 20, 59, what), 0, 1, 2, 3, 4, 7);
    }

    private static void rolled() {
        of("13", "Returns a measure of a window by rollups");
        MetricStore z = store(COUNTER);
        z.parameter(1, 1);
        appendEach(z, 0, 1, 25);
        due(z.window(0, 0, 30, 0), 1);
        due(z.rolled(0, 0, 0, 30, 0), 25);
        due(z.rolled(0, 1, 0, 60, 8), 1);
        MetricStore x = plain();
        of("13", "resolution: the resolution, 0 or 1");
        due(x.rolled(0, 0, 0, 120, 0), 5);
        due(x.rolled(0, 1, 0, 120, 0), 5);
        dueEach(NO, resolution -> x.rolled(0, resolution, 0, 120, 0), -1, 2, LEAST, MOST);
        of("13", "a: the beginning of the window, a multiple of the step");
        dueEach(NO, a -> x.rolled(0, 0, a, 60, 0), 1, 5, 9, 11, -1, -5, LEAST);
        dueEach(NO, a -> x.rolled(0, 1, a, 60, 0), 1, 10, 30, 59, -10, LEAST);
        due(x.rolled(0, 0, 10, 60, 0), 3);
        due(x.rolled(0, 0, -10, 60, 0), 4);
        due(x.rolled(0, 1, -60, 60, 0), 4);
        of("13", "b: its end, a multiple of the step");
        dueEach(NO, b -> x.rolled(0, 0, 0, b, 0), 1, 5, 9, 61, MOST);
        dueEach(NO, b -> x.rolled(0, 1, 0, b, 0), 1, 10, 59, 70, MOST);
        due(x.rolled(0, 0, 0, 60, 0), 4);
        due(x.rolled(0, 0, 0, 70, 0), 5);
        due(x.rolled(0, 1, 0, 60, 0), 4);
        of("13", "what: the measure, 0 to 9");
        dueMeasures(what -> x.rolled(0, 0, 0, 70, what), 5, 1, 1, 9, 16, 4, 15, 47, 10, 9, NO);
        dueMeasures(what -> x.rolled(0, 1, 0, 120, what), 5, 1, 1, 9, 16, 4, 15, 47, 10, 9, NO);
        due(x.rolled(0, 0, 0, 70, -1), NO);
        of("13", "NO if there is no such series or resolution, the series is undefined, what is invalid, a is greater than "
            + "b, one of them is not a multiple of the step, or the measure does not exist");
        dueNoSeries(NO, s -> x.rolled(s, 0, 0, 60, 0));
        dueEach(NO, resolution -> x.rolled(0, resolution, 0, 60, 0), -1, 2, LEAST, MOST);
        dueEach(NO, s -> x.rolled(s, 0, 0, 60, 0), 1, 7);
        dueEach(NO, what -> x.rolled(0, 0, 0, 60, what), -1, 10, 11, LEAST, MOST);
        due(x.rolled(0, 0, 20, 10, 0), NO);
        due(x.rolled(0, 0, 20, 20, 0), 0);
        due(x.rolled(0, 1, 60, 0, 0), NO);
        due(x.rolled(0, 0, 5, 20, 0), NO);
        due(x.rolled(0, 0, 0, 25, 0), NO);
        due(x.rolled(0, 1, 10, 60, 0), NO);
        due(x.rolled(0, 1, 0, 50, 0), NO);
        dueEach(NO, what -> x.rolled(0, 0, 20, 50, what), 5, 6, 8, 9);
        dueEach(0, what -> x.rolled(0, 0, 20, 50, what), 0, 1, 2, 3, 4, 7);
    }

    private static void differs() {
        of("14", "Returns in which measures a window by rollups differs from the same window by the kept samples");
        MetricStore x = plain();
        due(x.differs(0, 0, 0, 70), 0);
        due(x.differs(0, 1, 0, 120), 0);
        x.parameter(1, 1);
        append(x, 0, 62, 9, 63, 9, 64, 9);
        due(x.differs(0, 0, 0, 70), 0);
        append(x, 0, 65, 9);
        due(x.differs(0, 0, 0, 70), 0x1FF);
        due(x.differs(0, 1, 0, 120), 0x1FF);
        due(x.differs(0, 1, 60, 120), 0x91);
        of("14", "resolution: the resolution, 0 or 1");
        due(x.differs(0, 0, 60, 70), 0x91);
        due(x.differs(0, 1, 60, 120), 0x91);
        dueEach(NONE, resolution -> x.differs(0, resolution, 60, 120), -1, 2, LEAST, MOST);
        of("14", "Returns the set of these measures, bit k for the measure k, where measures that do not exist on both sides "
            + "do not differ");
        due(x.differs(0, 0, 0, 10), 0x3E1);
        due(x.differs(0, 0, 10, 20), 0x3FB);
        due(x.differs(0, 0, 20, 50), 0);
        due(x.differs(0, 0, 20, 60), 0x3E5);
        due(x.differs(0, 1, 120, 240), 0);
        of("14", "NONE if rolled would return NO for the measure 0");
        dueNoSeries(NONE, s -> x.differs(s, 0, 0, 60));
        dueEach(NONE, s -> x.differs(s, 0, 0, 60), 1, 7);
        dueEach(NONE, resolution -> x.differs(0, resolution, 0, 60), -1, 2, LEAST, MOST);
        dueEach(NONE, a -> x.differs(0, 0, a, 60), 70, 5, -5, LEAST);
        dueEach(NONE, b -> x.differs(0, 0, 0, b), -10, 5, 69, MOST);
        dueEach(NONE, a -> x.differs(0, 1, a, 60), 120, 10, -10, LEAST);
        dueEach(NONE, b -> x.differs(0, 1, 0, b), -60, 10, 50, MOST);
        due(x.differs(0, 0, 20, 20), 0);
    }

    private static void rollup() {
        of("15", "resolution: the resolution, 0 or 1");
        MetricStore x = plain();
        due(x.rollup(0, 0, 0, 0), 1);
        due(x.rollup(0, 1, 0, 0), 4);
        dueEach(NO, resolution -> x.rollup(0, resolution, 0, 0), -1, 2, LEAST, MOST);
        of("15", "i: the index, from 0 for the earliest kept one");
        dueMeasures(i -> x.rollup(0, 0, i, 10), 0, 1, 5, 6, NO);
        dueMeasures(i -> x.rollup(0, 1, i, 10), 0, 1, NO);
        due(x.rollup(0, 0, -1, 10), NO);
        MetricStore y = store(COUNTER);
        for (int k = 0; k < 40; k++) {
            append(y, 0, 60 * k + 60, k);
        }
        due(y.rollup(0, 1, 0, 10), 0);
        due(y.rollup(0, 1, 39, 10), 39);
        due(y.rollup(0, 1, 40, 10), NO);
        append(y, 0, 60 * 40 + 60, 40);
        due(y.rollup(0, 1, 0, 10), 1);
        due(y.rollup(0, 1, 0, 7), 1);
        due(y.rollup(0, 1, 39, 10), 40);
        due(y.rollup(0, 1, 39, 7), 40);
        due(y.rollup(0, 1, 40, 10), NO);
        of("15", "what: 0 to 9 for its measure");
        dueMeasures(what -> x.rollup(0, 0, 1, what), 2, 1, 0, 9, 15, 4, 15, 19, 15, 4);
        dueMeasures(what -> x.rollup(0, 0, 2, what), 1, 0, 1, 0, 0, 9, 9, 9, 9, 9);
        dueMeasures(what -> x.rollup(0, 1, 0, what), 4, 1, 1, 9, 15, 4, 15, 38, 10, 9);
        due(x.rollup(0, 0, 1, -1), NO);
        of("15", "10 for its number k");
        due(x.rollup(0, 0, 3, 10), 6);
        due(x.rollup(0, 0, 3, 11), NO);
        append(x, 0, 999999, 1);
        due(x.rollup(0, 0, 4, 10), 99999);
        due(x.rollup(0, 1, 2, 10), 16666);
        of("15", "NO if there is no such series or resolution or rollup or what is invalid");
        dueNoSeries(NO, s -> x.rollup(s, 0, 0, 0));
        dueEach(NO, resolution -> x.rollup(0, resolution, 0, 0), -1, 2, LEAST, MOST);
        dueEach(NO, i -> x.rollup(0, 0, i, 0), -1, 5, 40, LEAST, MOST);
        dueEach(NO, i -> x.rollup(0, 1, i, 0), -1, 3, 40, LEAST, MOST);
        dueEach(NO, s -> x.rollup(s, 0, 0, 0), 1, 7);
        dueEach(NO, what -> x.rollup(0, 0, 0, what), -1, 11, LEAST, MOST);
        x.define(1, GAUGE);
        due(x.rollup(1, 0, 0, 0), NO);
    }

    private static void fused() {
        of("16", "Returns a measure of a rollup of resolution 1, put together from the kept rollups of resolution 0 within "
            + "it");
        MetricStore x = store(COUNTER);
        for (int k = 0; k < 40; k++) {
            append(x, 0, 10 * k + 10, k);
        }
        due(x.fused(0, 0, 0), 6);
        due(x.fused(0, 0, 8), 0);
        append(x, 0, 410, 40);
        dueMeasures(what -> x.fused(0, 0, what), 5, 0, 0, 5, 50, 1, 5, 15, 1, 5);
        dueMeasures(what -> x.rollup(0, 1, 0, what), 6, 0, 0, 5, 50, 0, 5, 15, 0, 5);
        dueMeasures(what -> x.fused(0, 1, what), 6, 0, 0, 6, 60, 6, 11, 51, 6, 11);
        dueMeasures(what -> x.fused(0, 6, what), 5, 0, 0, 5, 50, 36, 40, 190, 36, 40);
        for (int k = 41; k < 46; k++) {
            append(x, 0, 10 * k + 10, k);
        }
        dueMeasures(what -> x.fused(0, 0, what), NOTHING);
        due(x.rollup(0, 1, 0, 0), 6);
        of("16", "k: the number of the rollup, 0 to 16666");
        MetricStore y = store(COUNTER, 1, 3, 60, 4, 999961, 5, 999999, 7);
        due(y.fused(0, 0, 7), 7);
        due(y.fused(0, 1, 7), 0);
        due(y.fused(0, 16665, 7), 0);
        due(y.fused(0, 16666, 7), 12);
        dueEach(NO, k -> y.fused(0, k, 7), -1, 16667, LEAST, MOST);
        of("16", "what: the measure, 0 to 9");
        dueMeasures(what -> y.fused(0, 0, what), 2, 0, 1, 0, 0, 3, 4, 7, 3, 4, NO);
        due(y.fused(0, 0, -1), NO);
        of("16", "NO if there is no such series, it is undefined, k is out of range, what is invalid, or the measure does not "
            + "exist");
        dueNoSeries(NO, s -> y.fused(s, 0, 0));
        dueEach(NO, s -> y.fused(s, 0, 0), 1, 7);
        dueEach(NO, k -> y.fused(0, k, 0), -1, 16667, 71582788, LEAST, MOST);
        dueEach(NO, what -> y.fused(0, 0, what), -1, 10, 11, LEAST, MOST);
        dueEach(NO, what -> y.fused(0, 1, what), 5, 6, 8, 9);
        dueEach(0, what -> y.fused(0, 1, what), 0, 1, 2, 3, 4, 7);
    }

    private static void rateBits() {
        of("17", "Returns the rate in a window by the kept samples: the measure 3 divided by the measure 4");
        MetricStore x = plain();
        due(x.rateBits(0, 0, 99), bits(9 / 16.0));
        due(x.rateBits(0, 5, 20), bits(9 / 15.0));
        x.parameter(1, 1);
        append(x, 0, 62, 9, 63, 9, 64, 9, 65, 11, 67, 12);
        due(x.rateBits(0, 0, 99), bits(3 / 3.0));
        of("17", "Returns the bits of the quotient of both as doubles, cast to float, as by Float.floatToIntBits");
        MetricStore y = store(GAUGE, 1, LEAST, 2, MOST, 9, 0, 12, -1, 13, -1, 14, -2);
        due(y.rateBits(0, 1, 2), bits(4294967295.0));
        due(y.rateBits(0, 2, 9), bits(-2147483647.0 / 7));
        due(y.rateBits(0, 9, 12), bits(-1 / 3.0));
        due(y.rateBits(0, 12, 13), bits(0.0));
        due(y.rateBits(0, 12, 13), 0);
        due(y.rateBits(0, 13, 14), bits(-1.0));
        due(y.rateBits(0, 1, 14), bits(2147483646.0 / 13));
        y.parameter(0, 9999);
        append(y, 0, 10013, -1);
        due(y.rateBits(0, 14, 10013), bits(1 / 9999.0));
        MetricStore z = store(COUNTER, 1, 0, 2, 16777217, 3, 16777219 + 16777217);
        due(z.rateBits(0, 1, 2), bits(16777217.0));
        due(z.rateBits(0, 2, 3), bits(16777219.0));
        of("17", "NONE if there is no such series, it is undefined, a is greater than b, or the measure 4 is 0");
        MetricStore w = store(COUNTER, 10, 5, 20, 6, 60, 7);
        dueNoSeries(NONE, s -> w.rateBits(s, 0, 99));
        dueEach(NONE, s -> w.rateBits(s, 0, 99), 1, 7);
        due(w.rateBits(0, 99, 0), NONE);
        due(w.rateBits(0, MOST, LEAST), NONE);
        due(w.rateBits(0, 20, 20), NONE);
        due(w.rateBits(0, 0, 10), NONE);
        due(w.rateBits(0, 20, 60), NONE);
        due(w.rateBits(0, 60, 99), NONE);
        due(w.rateBits(0, 19, 20), bits(0.1));
    }

    private static void bucket() {
        of("18", "Returns the change of a bucket of a histogram in a window by the kept samples");
        MetricStore x = histogram("5,10");
        for (int time = 1; time <= 9; time++) {
            observe(x, 0, time, 1, 7, 99);
            x.scrape(0, time);
        }
        dueMeasures(k -> x.bucket(0, 0, 9, k), 44, 44, 44, NO);
        dueMeasures(k -> x.bucket(0, 0, 1, k), 0, 0, 0, NO);
        dueMeasures(k -> x.bucket(0, 1, 3, k), 5, 5, 5, NO);
        x.parameter(1, 1);
        dueMeasures(k -> x.bucket(0, 0, 9, k), 9, 9, 9, NO);
        dueMeasures(k -> x.bucket(0, 0, 8, k), 0, 0, 0, NO);
        of("18", "NO if there is no such series or bucket, it is no histogram, or a is greater than b");
        x.define(1, COUNTER);
        x.define(2, GAUGE);
        Check.histogram(x, 3, "1,2,3,4,5,6");
        dueNoSeries(NO, s -> x.bucket(s, 0, 9, 0));
        dueEach(NO, k -> x.bucket(0, 0, 9, k), -1, 3, 4, 7, LEAST, MOST);
        dueEach(NO, k -> x.bucket(3, 0, 9, k), -1, 7, 8, LEAST, MOST);
        due(x.bucket(3, 0, 9, 6), 0);
        dueEach(NO, s -> x.bucket(s, 0, 9, 0), 1, 2, 4, 7);
        due(x.bucket(0, 9, 8, 0), NO);
        due(x.bucket(0, 9, 9, 0), 0);
        due(x.bucket(0, MOST, LEAST, 0), NO);
    }

    /** Histograms 0 and 1 with 10 and 30 in common; 2 has no bound of theirs; 3 is a counter, 4 a gauge. */
    private static MetricStore histograms() {
        MetricStore x = new MetricStore();
        Check.histogram(x, 0, "10,20,30");
        Check.histogram(x, 1, "5,10,25,30,40,50");
        Check.histogram(x, 2, "7");
        x.define(3, COUNTER);
        x.define(4, GAUGE);
        for (int s = 0; s < 3; s++) {
            x.scrape(s, 1);
            observe(x, s, 1, 3, 8, 15, 28, 35, 45, 99);
            x.scrape(s, 2);
        }
        return x;
    }

    private static void merged() {
        of("19", "what: 0 for the number of bounds");
        MetricStore x = histograms();
        due(x.merged(1, 0, 2, 0), 3);
        due(x.merged(2, 0, 2, 0), 6);
        due(x.merged(3, 0, 2, 0), 2);
        due(x.merged(5, 0, 2, 0), 0);
        of("19", "1 for the sum of all buckets");
        due(x.merged(1, 0, 2, 1), 7);
        due(x.merged(7, 0, 2, 1), 21);
        due(x.merged(7, 2, 2, 1), 0);
        of("19", "10 + k for the bound k");
        dueMeasures(k -> x.merged(1, 0, 2, 10 + k), 10, 20, 30, NO);
        dueMeasures(k -> x.merged(2, 0, 2, 10 + k), 5, 10, 25, 30, 40, 50, NO);
        dueMeasures(k -> x.merged(3, 0, 2, 10 + k), 10, 30, NO);
        of("19", "20 + k for the bucket k");
        dueMeasures(k -> x.merged(1, 0, 2, 20 + k), 2, 1, 1, 3, NO);
        dueMeasures(k -> x.merged(2, 0, 2, 20 + k), 1, 1, 1, 1, 1, 1, 1, NO);
        dueMeasures(k -> x.merged(3, 0, 2, 20 + k), 4, 4, 6, NO);
        dueMeasures(k -> x.merged(7, 0, 2, 20 + k), 21, NO);
    }

    private static void mergedErrors() {
        of("19", "NO if set is empty or contains others than histograms, a is greater than b, what is invalid, or there is no "
            + "such bound or bucket");
        MetricStore x = histograms();
        due(x.merged(0, 0, 2, 0), NO);
        dueEach(NO, set -> x.merged(set, 0, 2, 0), 8, 9, 11, 16, 17, 32, 33, 128, 129, 255, 256, 257, 1 << 30, -1, LEAST,
            LEAST + 1, MOST);
        due(x.merged(7, 0, 2, 0), 0);
        MetricStore y = histograms();
        y.define(0, COUNTER);
        Check.histogram(y, 7, "5");
        dueEach(NO, set -> y.merged(set, 0, 2, 0), 1, 3, 5, 7, 129);
        due(y.merged(128 + 6, 0, 2, 0), 0);
        y.define(7, GAUGE);
        dueEach(NO, set -> y.merged(set, 0, 2, 0), 128, 130);
        due(x.merged(1, 3, 2, 0), NO);
        due(x.merged(1, 2, 2, 0), 3);
        due(x.merged(1, MOST, LEAST, 1), NO);
        dueEach(NO, what -> x.merged(1, 0, 2, what), -1, 2, 3, 9, 13, 16, 19, 24, 27, 30, LEAST, MOST);
        dueEach(NO, what -> x.merged(2, 0, 2, what), -1, 2, 9, 16, 17, 18, 19, 27, 28, LEAST, MOST);
        dueEach(NO, what -> x.merged(7, 0, 2, what), -1, 2, 9, 10, 19, 21, LEAST, MOST);
    }

    private static void quantile() {
        of("20", "q: the quantile, 1 to 100");
        MetricStore x = histograms();
        due(x.quantile(1, 0, 2, 0, 0), NO);
        due(x.quantile(1, 0, 2, 1, 0), 5);
        due(x.quantile(1, 0, 2, 100, 0), 30);
        due(x.quantile(1, 0, 2, 101, 0), NO);
        of("20", "part: 0 for the numerator, 1 for the denominator, in lowest terms");
        due(x.quantile(1, 0, 2, 1, 1), 1);
        due(x.quantile(3, 0, 2, 1, 0), 5);
        due(x.quantile(3, 0, 2, 1, 1), 2);
        due(x.quantile(3, 0, 2, 14, 0), 5);
        due(x.quantile(3, 0, 2, 14, 1), 1);
        due(x.quantile(3, 0, 2, 100, 0), 30);
        due(x.quantile(3, 0, 2, 100, 1), 1);
        dueEach(NO, part -> x.quantile(1, 0, 2, 50, part), -1, 2, LEAST, MOST);
        MetricStore y = observed("8,9", 1, 1, 1, 1, 1, 1, 1, 1, 1, 1, 1, 1);
        due(y.quantile(1, 0, 9, 1, 0), 2);
        due(y.quantile(1, 0, 9, 1, 1), 3);
        due(y.quantile(1, 0, 9, 50, 0), 4);
        due(y.quantile(1, 0, 9, 50, 1), 1);
    }

    private static void quantileErrors() {
        of("20", "NO if set is empty or contains others than histograms, a is greater than b, q or part is out of range, or "
            + "the merge has no bounds or no counts");
        MetricStore x = histograms();
        due(x.quantile(0, 0, 2, 50, 0), NO);
        dueEach(NO, set -> x.quantile(set, 0, 2, 50, 0), 8, 9, 11, 16, 17, 32, 33, 128, 129, 255, 256, 257, 1 << 30, -1,
            LEAST, LEAST + 1, MOST);
        MetricStore y = histograms();
        y.define(0, COUNTER);
        dueEach(NO, set -> y.quantile(set, 0, 2, 50, 0), 1, 3, 5, 7);
        due(x.quantile(1, 3, 2, 50, 0), NO);
        due(x.quantile(1, MOST, LEAST, 50, 0), NO);
        dueEach(NO, q -> x.quantile(1, 0, 2, q, 0), 0, -1, 101, LEAST, MOST);
        dueEach(NO, part -> x.quantile(1, 0, 2, 50, part), -1, 2, LEAST, MOST);
        due(x.quantile(5, 0, 2, 50, 0), NO);
        due(x.quantile(5, 0, 2, 100, 1), NO);
        due(x.quantile(1, 2, 2, 50, 0), NO);
        due(x.quantile(1, 0, 1, 100, 1), NO);
        due(x.quantile(1, 2, 9, 100, 1), NO);
        due(x.quantile(4, 0, 2, 100, 0), 7);
    }
}
