/** The description up to the merging: series, pairs, blocks, windows, rollups. */
final class DescriptionSentences extends SentenceCase {
    private DescriptionSentences() {
    }

    static void test() {
        eightSeries();
        kinds();
        times();
        ascendingTimes();
        values();
        counterValues();
        bounds();
        presentCounts();
        histogramSamples();
        gaps();
        coveredTime();
        resets();
        changes();
        bucketChanges();
        firstSample();
        blocksOfEight();
        nextBlock();
        retention();
        dropped();
        staysAsItWas();
        windowEnds();
        numberOfSamples();
        resetsAndGaps();
        sumOfChanges();
        timeOfPairs();
        leastGreatestSum();
        firstAndLast();
        measuresOfNothing();
        resolutions();
        rollupWindows();
        fortyRollups();
        windowsByRollups();
    }

    private static void eightSeries() {
        of("Series", "There are 8 series, numbered from 0");
        MetricStore x = new MetricStore();
        dueNoSeries(NONE, s -> x.define(s, COUNTER));
        due(x.define(0, COUNTER), MISSING);
        due(x.define(7, COUNTER), MISSING);
        due(x.count(0), 2);
        dueEach(MISSING, s -> x.define(s, GAUGE), 1, 2, 3, 4, 5, 6);
        due(x.count(0), 8);
    }

    private static void kinds() {
        of("Series", "A series is undefined at first, or a counter (kind 0), a gauge (kind 1) or a histogram (kind 2)");
        MetricStore x = new MetricStore();
        dueEach(MISSING, s -> x.series(s, 0), 0, 1, 2, 3, 4, 5, 6, 7);
        due(x.count(0), 0);
        x.define(0, 0);
        x.define(1, 1);
        Check.histogram(x, 2, "5");
        due(x.series(0, 0), 0);
        due(x.series(1, 0), 1);
        due(x.series(2, 0), 2);
        due(x.append(0, 1, -1), BAD);
        due(x.append(1, 1, -1), 1);
        due(x.scrape(2, 1), 1);
        due(x.define(3, 2), BAD);
        due(x.series(3, 0), MISSING);
    }

    private static void times() {
        of("Series", "Times are from 1 to 999999");
        MetricStore x = histogram("5");
        Check.histogram(x, 1, "5");
        x.define(2, COUNTER);
        x.define(3, GAUGE);
        dueEach(BAD, time -> x.append(2, time, 1), 0, -1, 1000000, LEAST, MOST);
        dueEach(BAD, time -> x.append(3, time, 1), 0, -1, 1000000, LEAST, MOST);
        dueEach(BAD, time -> x.scrape(0, time), 0, -1, 1000000, LEAST, MOST);
        Check.feed(x, "1");
        dueEach(BAD, x::ask, 0, -1, 1000000, LEAST, MOST);
        due(x.append(2, 1, 1), 1);
        due(x.append(2, 999999, 1), 2);
        due(x.append(3, 999999, 1), 1);
        due(x.scrape(0, 1), 1);
        due(x.scrape(1, 999999), 1);
        due(x.ask(1), 1);
        due(Check.ask(x, "1", 999999), 1);
    }

    private static void ascendingTimes() {
        of("Series", "The samples of a series have ascending times");
        MetricStore x = histogram("5");
        x.define(1, COUNTER);
        x.define(2, GAUGE);
        for (int s = 1; s <= 2; s++) {
            due(x.append(s, 100, 1), 1);
            due(x.append(s, 100, 1), BAD);
            due(x.append(s, 99, 1), BAD);
            due(x.append(s, 101, 1), 2);
            due(x.sample(s, 0, 0), 100);
            due(x.sample(s, 1, 0), 101);
        }
        due(x.scrape(0, 5), 1);
        due(x.scrape(0, 5), BAD);
        due(x.scrape(0, 4), BAD);
        due(x.scrape(0, 6), 2);
    }

    private static void values() {
        of("Series", "A sample of a counter or gauge has a value");
        MetricStore x = store(GAUGE, 1, LEAST, 2, -1, 3, 0, 4, MOST);
        due(x.sample(0, 0, 1), LEAST);
        due(x.sample(0, 1, 1), -1);
        due(x.sample(0, 2, 1), 0);
        due(x.sample(0, 3, 1), MOST);
        x.define(1, COUNTER);
        due(x.append(1, 1, MOST), 1);
        due(x.sample(1, 0, 1), MOST);
    }

    private static void counterValues() {
        of("Series", "that of a counter is not negative");
        MetricStore x = store(COUNTER);
        due(x.append(0, 1, -1), BAD);
        due(x.append(0, 1, LEAST), BAD);
        due(x.append(0, 1, 0), 1);
        due(x.append(0, 2, 1), 2);
        due(x.append(0, 3, -1), BAD);
        due(x.append(0, 3, 0), 3);
    }

    private static void bounds() {
        of("Series", "A histogram has 1 to 6 bounds, ascending numbers from 1 to 9999, and one bucket more than bounds: "
            + "bucket k counts the observations that are not greater than bound k and not counted by a lower bucket, "
            + "the last bucket counts all others");
        MetricStore x = new MetricStore();
        due(Check.histogram(x, 0, ""), -100);
        due(Check.histogram(x, 0, "1"), 1);
        due(Check.histogram(x, 1, "1,2,3,4,5,9999"), 6);
        due(Check.histogram(x, 2, "1,2,3,4,5,6,7"), -112);
        due(Check.histogram(x, 2, "5,5"), BAD);
        due(Check.histogram(x, 2, "5,4"), BAD);
        due(Check.histogram(x, 2, "1,2,3,4,6,5"), BAD);
        due(Check.histogram(x, 2, "4,5"), 2);
        due(Check.histogram(x, 3, "0"), BAD);
        due(Check.histogram(x, 3, "0,1"), BAD);
        due(Check.histogram(x, 3, "10000"), BAD);
        due(Check.histogram(x, 3, "1,10000"), BAD);
        due(x.series(0, 21), 0);
        due(x.series(0, 22), NONE);
        due(x.series(1, 26), 0);
        due(x.series(1, 27), NONE);
        due(x.observe(0, 0, 1), 0);
        due(x.observe(0, 1, 1), 0);
        due(x.observe(0, 2, 1), 1);
        due(x.observe(1, 5, 1), 4);
        due(x.observe(1, 6, 1), 5);
        due(x.observe(1, 9999, 1), 5);
        due(x.observe(1, 10000, 1), 6);
        due(x.observe(1, MOST, 1), 6);
    }

    private static void presentCounts() {
        of("Series", "A histogram has a present count for each bucket");
        MetricStore x = histogram("1,2,3,4,5,6");
        dueEach(0, k -> x.series(0, 20 + k), 0, 1, 2, 3, 4, 5, 6);
        observe(x, 0, 2, 1, 2, 3, 4, 5, 6, 7);
        dueEach(2, k -> x.series(0, 20 + k), 0, 1, 2, 3, 4, 5, 6);
        due(x.series(0, 19), NONE);
        due(x.series(0, 27), NONE);
        Check.histogram(x, 1, "5");
        due(x.series(1, 21), 0);
        due(x.series(1, 22), NONE);
    }

    private static void histogramSamples() {
        of("Series", "a sample of it has the counts that were present when it was added, and its value is the sum of "
            + "these counts");
        MetricStore x = histogram("1,2,3,4,5,6");
        x.scrape(0, 1);
        due(x.sample(0, 0, 1), 0);
        dueEach(0, k -> x.sample(0, 0, 10 + k), 0, 1, 2, 3, 4, 5, 6);
        observe(x, 0, 3, 1, 2, 3, 4, 5, 6, 7);
        due(x.sample(0, 0, 1), 0);
        due(x.sample(0, 0, 16), 0);
        x.scrape(0, 2);
        x.restart(0);
        due(x.sample(0, 1, 1), 21);
        dueEach(3, k -> x.sample(0, 1, 10 + k), 0, 1, 2, 3, 4, 5, 6);
        x.scrape(0, 3);
        due(x.sample(0, 2, 1), 0);
    }

    private static void gaps() {
        of("Pairs", "When a sample is added to a series that has had one, the two form a pair, which belongs to the later "
            + "sample, and the following is fixed for good: if the time between both is greater than the gap, which is a "
            + "parameter, the pair is a gap, has the change 0 and covers nothing");
        MetricStore x = store(COUNTER, 10, 5, 40, 7, 71, 9, 72, 1);
        due(x.sample(0, 0, 2), 0);
        due(x.sample(0, 1, 2), 1);
        due(x.sample(0, 2, 2), 3);
        due(x.sample(0, 2, 3), 0);
        due(x.sample(0, 2, 4), 0);
        x.parameter(0, 1);
        append(x, 0, 73, 2, 75, 9);
        due(x.sample(0, 4, 2), 1);
        due(x.sample(0, 5, 2), 3);
        x.parameter(0, 9999);
        append(x, 0, 10074, 9, 20074, 9);
        due(x.sample(0, 6, 2), 1);
        due(x.sample(0, 6, 4), 9999);
        due(x.sample(0, 7, 2), 3);
        x.parameter(0, 1);
        due(x.sample(0, 1, 2), 1);
        due(x.sample(0, 5, 2), 3);
        due(x.sample(0, 6, 2), 1);
        x.parameter(0, 9999);
        due(x.sample(0, 2, 2), 3);
        MetricStore y = histogram("5");
        for (int time = 1; time <= 16; time++) {
            observe(y, 0, 4, 1);
            y.scrape(0, time);
        }
        y.parameter(1, 1);
        for (int time = 50; time <= 400; time += 50) {
            observe(y, 0, 4, 1);
            y.scrape(0, time);
            due(y.sample(0, time / 50 - 1, 2), 3);
            due(y.sample(0, time / 50 - 1, 3), 0);
            due(y.sample(0, time / 50 - 1, 4), 0);
        }
        due(y.bucket(0, 0, 999, 0), 0);
    }

    private static void coveredTime() {
        of("Pairs", "otherwise it covers this time");
        MetricStore x = store(COUNTER, 10, 5, 11, 9, 41, 3, 72, 3);
        due(x.sample(0, 1, 4), 1);
        due(x.sample(0, 2, 2), 2);
        due(x.sample(0, 2, 4), 30);
        due(x.sample(0, 3, 4), 0);
    }

    private static void resets() {
        of("Pairs", "A pair that is no gap is a reset if the series is no gauge and the value of the later sample is less "
            + "than that of the earlier one");
        MetricStore x = store(COUNTER, 1, 5, 2, 5, 3, 4, 4, 5, 35, 1, 65, 0);
        due(x.sample(0, 1, 2), 1);
        due(x.sample(0, 2, 2), 2);
        due(x.sample(0, 3, 2), 1);
        due(x.sample(0, 4, 2), 3);
        due(x.sample(0, 5, 2), 2);
        MetricStore y = store(GAUGE, 1, 5, 2, 4, 3, LEAST);
        due(y.sample(0, 1, 2), 1);
        due(y.sample(0, 2, 2), 1);
        MetricStore z = observed("5,10", 1, 7);
        z.restart(0);
        observe(z, 0, 1, 1, 1);
        z.scrape(0, 3);
        due(z.sample(0, 2, 2), 1);
        z.restart(0);
        observe(z, 0, 1, 7);
        z.scrape(0, 4);
        due(z.sample(0, 3, 2), 2);
    }

    private static void changes() {
        of("Pairs", "The change of a pair that is no gap is the later value minus the earlier one, and for a reset the "
            + "later value");
        MetricStore x = store(COUNTER, 1, 5, 2, 5, 3, 9, 4, 8, 5, 0, 6, MOST);
        dueMeasures(i -> x.sample(0, i, 3), 0, 0, 4, 8, 0, MOST);
        MetricStore y = store(GAUGE, 1, 5, 2, -5, 3, LEAST, 4, MOST, 5, LEAST);
        dueMeasures(i -> y.sample(0, i, 3), 0, -10, LEAST + 5, 4294967295L, -4294967295L);
    }

    private static void bucketChanges() {
        of("Pairs", "For a bucket of a histogram, the change of a pair that is no gap is the later count minus the earlier "
            + "one, but at least 0, and for a reset the later count");
        MetricStore x = observed("5,10", 1, 1, 1, 7);
        dueMeasures(k -> x.bucket(0, 1, 2, k), 3, 1, 0, NO);
        x.restart(0);
        observe(x, 0, 1, 1, 7, 7, 99);
        x.scrape(0, 3);
        due(x.sample(0, 2, 2), 1);
        dueMeasures(k -> x.bucket(0, 2, 3, k), 0, 1, 1);
        x.restart(0);
        observe(x, 0, 1, 1, 7, 99);
        x.scrape(0, 4);
        due(x.sample(0, 3, 2), 2);
        dueMeasures(k -> x.bucket(0, 3, 4, k), 1, 1, 1);
        x.scrape(0, 5);
        dueMeasures(k -> x.bucket(0, 4, 5, k), 0, 0, 0);
        observe(x, 0, 9, 1, 7, 99);
        x.scrape(0, 36);
        dueMeasures(k -> x.bucket(0, 5, 36, k), 0, 0, 0);
    }

    private static void firstSample() {
        of("Pairs", "The first sample of a series belongs to no pair");
        MetricStore x = store(COUNTER, 5, 7);
        dueMeasures(what -> x.sample(0, 0, what), 5, 7, 0, 0, 0);
        append(x, 0, 6, 8);
        x.define(0, COUNTER);
        append(x, 0, 7, 9);
        dueMeasures(what -> x.sample(0, 0, what), 7, 9, 0, 0, 0);
        MetricStore y = histogram("5");
        observe(y, 0, 3, 1);
        y.scrape(0, 5);
        dueMeasures(what -> y.sample(0, 0, what), 5, 3, 0, 0, 0);
        due(y.bucket(0, 0, 5, 0), 0);
        y.parameter(1, 1);
        for (int time = 6; time <= 13; time++) {
            observe(y, 0, 3, 1);
            y.scrape(0, time);
        }
        due(y.bucket(0, 12, 13, 0), 3);
        Check.histogram(y, 0, "5");
        observe(y, 0, 3, 1);
        y.scrape(0, 7);
        dueMeasures(what -> y.sample(0, 0, what), 7, 3, 0, 0, 0);
        due(y.bucket(0, 0, 7, 0), 0);
    }

    private static void blocksOfEight() {
        of("Blocks", "The samples of a series are kept in blocks of 8");
        MetricStore x = store(COUNTER);
        due(x.series(0, 2), 0);
        appendEach(x, 0, 1, 1);
        due(x.series(0, 2), 1);
        appendEach(x, 0, 2, 7);
        due(x.series(0, 2), 1);
        appendEach(x, 0, 8, 8);
        due(x.series(0, 2), 1);
        appendEach(x, 0, 9, 9);
        due(x.series(0, 2), 2);
        appendEach(x, 0, 10, 17);
        due(x.series(0, 2), 3);
    }

    private static void nextBlock() {
        of("Blocks", "a new block begins when the last one is full");
        MetricStore x = store(COUNTER);
        x.parameter(1, 1);
        for (int time = 1; time <= 8; time++) {
            due(x.append(0, time, time), time);
            due(x.series(0, 2), 1);
        }
        due(x.append(0, 9, 9), 1);
        due(x.series(0, 2), 1);
        due(x.append(0, 10, 10), 2);
    }

    private static void retention() {
        of("Blocks", "At most as many blocks are kept as the retention says, a parameter");
        for (int most = 1; most <= 8; most++) {
            MetricStore x = store(COUNTER);
            x.parameter(1, most);
            appendEach(x, 0, 1, 8 * most);
            due(x.series(0, 1), 8 * most);
            due(x.series(0, 2), most);
            due(x.sample(0, 0, 0), 1);
            appendEach(x, 0, 8 * most + 1, 8 * most + 1);
            due(x.series(0, 1), 8 * most - 7);
            due(x.series(0, 2), most);
            due(x.sample(0, 0, 0), 9);
        }
    }

    private static void dropped() {
        of("Blocks", "if there are more, also because the retention is lowered, the oldest ones are dropped with their "
            + "samples");
        MetricStore x = store(COUNTER);
        x.define(1, GAUGE);
        Check.histogram(x, 2, "5");
        appendEach(x, 0, 1, 64);
        appendEach(x, 1, 1, 17);
        for (int time = 1; time <= 24; time++) {
            x.scrape(2, time);
        }
        x.parameter(1, 3);
        due(x.series(0, 1), 24);
        due(x.sample(0, 0, 0), 41);
        due(x.sample(0, 24, 0), NO);
        due(x.series(1, 1), 17);
        due(x.series(2, 1), 24);
        x.parameter(1, 2);
        due(x.sample(0, 0, 0), 49);
        due(x.series(1, 1), 9);
        due(x.sample(1, 0, 0), 9);
        due(x.sample(2, 0, 0), 9);
        x.parameter(1, 2);
        due(x.series(1, 1), 9);
        x.parameter(1, 1);
        due(x.series(0, 1), 8);
        due(x.series(1, 1), 1);
        due(x.sample(1, 0, 0), 17);
        due(x.series(2, 1), 8);
        x.parameter(1, 8);
        due(x.series(0, 1), 8);
        due(x.window(0, 0, 99, 8), 57);
        due(x.count(2), 56 + 16 + 16);
    }

    private static void staysAsItWas() {
        of("Blocks", "What belonged to the kept samples stays as it was");
        MetricStore x = store(COUNTER);
        appendEach(x, 0, 11, 18);
        append(x, 0, 23, 3, 24, 4, 60, 9);
        Check.histogram(x, 1, "5");
        for (int time = 1; time <= 9; time++) {
            observe(x, 1, time, 1);
            x.scrape(1, time);
        }
        x.parameter(1, 1);
        due(x.series(0, 1), 3);
        dueMeasures(what -> x.sample(0, 0, what), 23, 3, 2, 3, 5);
        dueMeasures(what -> x.sample(0, 1, what), 24, 4, 1, 1, 1);
        dueMeasures(what -> x.sample(0, 2, what), 60, 9, 3, 0, 0);
        due(x.series(1, 1), 1);
        dueMeasures(what -> x.sample(1, 0, what), 9, 45, 1, 9, 1);
        due(x.bucket(1, 0, 9, 0), 9);
    }

    private static void windowEnds() {
        of("Windows", "A window (a, b] consists of the times greater than a and not greater than b");
        MetricStore x = store(COUNTER, 10, 1, 20, 2, 30, 4);
        due(x.window(0, 9, 10, 7), 1);
        due(x.window(0, 10, 19, 7), 0);
        due(x.window(0, 10, 20, 7), 2);
        due(x.window(0, 9, 29, 7), 3);
        due(x.window(0, 9, 30, 7), 7);
        due(x.window(0, 10, 30, 7), 6);
        due(x.window(0, 30, 99, 7), 0);
        due(x.window(0, 0, 9, 7), 0);
        MetricStore y = observed("5", 1);
        due(y.bucket(0, 1, 2, 0), 1);
        due(y.bucket(0, 2, 3, 0), 0);
        due(y.bucket(0, 0, 1, 0), 0);
        due(y.merged(1, 1, 2, 1), 1);
        due(y.merged(1, 2, 3, 1), 0);
        due(y.merged(1, 0, 1, 1), 0);
    }

    private static void numberOfSamples() {
        of("Windows", "For a series, it has these measures, by the samples with such times: 0 the number of samples");
        MetricStore x = store(COUNTER, 10, 1, 20, 2, 30, 4);
        due(x.window(0, 0, 9, 0), 0);
        due(x.window(0, 0, 10, 0), 1);
        due(x.window(0, 0, 99, 0), 3);
    }

    private static void resetsAndGaps() {
        of("Windows", "1 of resets and 2 of gaps among their pairs");
        MetricStore x = store(COUNTER, 10, 9, 20, 2, 60, 4, 61, 3, 99, 0);
        due(x.window(0, 0, 10, 1), 0);
        due(x.window(0, 10, 20, 1), 1);
        due(x.window(0, 10, 20, 2), 0);
        due(x.window(0, 20, 60, 1), 0);
        due(x.window(0, 20, 60, 2), 1);
        due(x.window(0, 0, 99, 1), 2);
        due(x.window(0, 0, 99, 2), 2);
    }

    private static void sumOfChanges() {
        of("Windows", "3 the sum of the changes of their pairs");
        MetricStore x = store(COUNTER, 10, 9, 20, 2, 60, 4, 61, 5);
        due(x.window(0, 0, 10, 3), 0);
        due(x.window(0, 10, 20, 3), 2);
        due(x.window(0, 20, 60, 3), 0);
        due(x.window(0, 0, 99, 3), 3);
        MetricStore y = store(GAUGE, 1, 5, 2, 1, 3, LEAST, 4, MOST);
        due(y.window(0, 0, 2, 3), -4);
        due(y.window(0, 2, 3, 3), LEAST - 1L);
        due(y.window(0, 3, 4, 3), 4294967295L);
        MetricStore z = store(COUNTER, 1, 0, 2, MOST, 3, 0, 4, MOST);
        due(z.window(0, 0, 9, 3), 2L * MOST);
    }

    private static void timeOfPairs() {
        of("Windows", "4 the time that these pairs cover");
        MetricStore x = store(COUNTER, 10, 9, 20, 2, 60, 4, 90, 5);
        due(x.window(0, 0, 10, 4), 0);
        due(x.window(0, 10, 20, 4), 10);
        due(x.window(0, 19, 20, 4), 10);
        due(x.window(0, 20, 60, 4), 0);
        due(x.window(0, 89, 90, 4), 30);
        due(x.window(0, 0, 99, 4), 40);
    }

    private static void leastGreatestSum() {
        of("Windows", "5 the least value, 6 the greatest value, 7 the sum of the values");
        MetricStore x = store(GAUGE, 1, -3, 2, -7, 3, -5);
        due(x.window(0, 0, 1, 5), -3);
        due(x.window(0, 0, 1, 6), -3);
        due(x.window(0, 0, 3, 5), -7);
        due(x.window(0, 0, 3, 6), -3);
        due(x.window(0, 0, 3, 7), -15);
        MetricStore y = store(GAUGE, 1, 3, 2, 7, 3, 5);
        due(y.window(0, 0, 3, 5), 3);
        due(y.window(0, 0, 3, 6), 7);
        MetricStore z = store(GAUGE, 1, LEAST, 2, LEAST, 3, MOST, 4, MOST, 5, MOST);
        due(z.window(0, 0, 5, 5), LEAST);
        due(z.window(0, 0, 5, 6), MOST);
        due(z.window(0, 0, 2, 7), 2L * LEAST);
        due(z.window(0, 2, 5, 7), 3L * MOST);
    }

    private static void firstAndLast() {
        of("Windows", "8 the first value and 9 the last value");
        MetricStore x = store(GAUGE, 1, 3, 2, 7, 3, -5);
        due(x.window(0, 1, 2, 8), 7);
        due(x.window(0, 1, 2, 9), 7);
        due(x.window(0, 0, 9, 8), 3);
        due(x.window(0, 0, 9, 9), -5);
        due(x.window(0, 1, 3, 8), 7);
        due(x.window(0, 0, 2, 9), 7);
    }

    private static void measuresOfNothing() {
        of("Windows", "The measures 5, 6, 8 and 9 do not exist if there are no samples");
        MetricStore x = store(COUNTER);
        dueMeasures(what -> x.window(0, 0, 99, what), NOTHING);
        dueMeasures(what -> x.rolled(0, 0, 0, 90, what), NOTHING);
        append(x, 0, 10, 0, 20, 0);
        dueMeasures(what -> x.window(0, 10, 19, what), NOTHING);
        dueMeasures(what -> x.rolled(0, 0, 20, 90, what), NOTHING);
        dueMeasures(what -> x.fused(0, 1, what), NOTHING);
        dueMeasures(what -> x.window(0, 10, 20, what), 1, 0, 0, 0, 10, 0, 0, 0, 0, 0);
    }

    private static void resolutions() {
        of("Rollups", "There are two resolutions, 0 with the step 10 and 1 with the step 60");
        MetricStore x = store(COUNTER, 10, 1, 11, 2, 60, 4, 61, 8);
        dueEach(NO, resolution -> x.rolled(0, resolution, 0, 60, 0), -1, 2, LEAST, MOST);
        dueEach(NO, resolution -> x.rollup(0, resolution, 0, 0), -1, 2, LEAST, MOST);
        dueEach(NONE, resolution -> x.differs(0, resolution, 0, 60), -1, 2, LEAST, MOST);
        dueEach(NONE, resolution -> x.store(0, 0, resolution, 0, 1), -1, 2, LEAST, MOST);
        due(x.rolled(0, 0, 0, 10, 7), 1);
        due(x.rolled(0, 0, 10, 20, 7), 2);
        due(x.rolled(0, 1, 0, 60, 7), 7);
        due(x.rolled(0, 1, 60, 120, 7), 8);
        due(x.rolled(0, 1, 0, 10, 7), NO);
    }

    private static void rollupWindows() {
        of("Rollups", "The rollup k of a resolution with the step r has the measures of the window (k * r, (k + 1) * r], by "
            + "all samples that were ever added, dropped ones included");
        MetricStore x = store(COUNTER, 1, 1, 10, 2, 11, 4, 20, 8, 21, 16, 60, 32, 61, 64, 120, 128, 121, 256);
        dueMeasures(i -> x.rollup(0, 0, i, 10), 0, 1, 2, 5, 6, 11, 12);
        dueMeasures(i -> x.rollup(0, 0, i, 7), 3, 12, 16, 32, 64, 128, 256);
        dueMeasures(i -> x.rollup(0, 1, i, 10), 0, 1, 2);
        dueMeasures(i -> x.rollup(0, 1, i, 7), 63, 192, 256);
        x.parameter(1, 1);
        due(x.series(0, 1), 1);
        dueMeasures(i -> x.rollup(0, 0, i, 7), 3, 12, 16, 32, 64, 128, 256);
        dueMeasures(i -> x.rollup(0, 1, i, 7), 63, 192, 256);
        append(x, 0, 999990, 1, 999991, 1, 999999, 1);
        dueMeasures(i -> x.rollup(0, 0, 7 + i, 10), 99998, 99999, NO);
        due(x.rollup(0, 1, 3, 10), 16666);
        due(x.rollup(0, 1, 3, 0), 3);
    }

    private static void fortyRollups() {
        of("Rollups", "Each series keeps, for each resolution, at most 40 rollups: those with samples, the latest ones");
        MetricStore x = store(COUNTER);
        for (int k = 0; k < 40; k++) {
            append(x, 0, 1 + 120 * k, k);
        }
        due(x.series(0, 5), 40);
        due(x.series(0, 6), 40);
        due(x.rollup(0, 0, 0, 10), 0);
        due(x.rollup(0, 0, 39, 10), 12 * 39);
        due(x.rollup(0, 1, 39, 10), 2 * 39);
        append(x, 0, 2 + 120 * 39, 7);
        due(x.rollup(0, 0, 0, 10), 0);
        due(x.rollup(0, 0, 39, 0), 2);
        append(x, 0, 11 + 120 * 39, 7);
        due(x.series(0, 5), 40);
        due(x.rollup(0, 0, 0, 10), 12);
        due(x.rollup(0, 0, 39, 10), 12 * 39 + 1);
        due(x.rollup(0, 1, 0, 10), 0);
        append(x, 0, 61 + 120 * 39, 7);
        due(x.series(0, 6), 40);
        due(x.rollup(0, 0, 0, 10), 24);
        due(x.rollup(0, 1, 0, 10), 2);
        due(x.rollup(0, 1, 39, 10), 2 * 39 + 1);
        due(x.rollup(0, 1, 39, 0), 1);
        due(x.rollup(0, 0, 40, 10), NO);
    }

    private static void windowsByRollups() {
        of("Rollups", "The measures of a window whose ends are multiples of the step, by rollups, are put together from the "
            + "kept rollups within it");
        MetricStore x = store(COUNTER, 5, 9, 10, 4, 15, 6, 55, 20, 65, 10);
        dueMeasures(what -> x.rolled(0, 0, 0, 10, what), 2, 1, 0, 4, 5, 4, 9, 13, 9, 4);
        dueMeasures(what -> x.rolled(0, 0, 10, 70, what), 3, 1, 1, 12, 15, 6, 20, 36, 6, 10);
        dueMeasures(what -> x.rolled(0, 0, 0, 70, what), 5, 2, 1, 16, 20, 4, 20, 49, 9, 10);
        dueMeasures(what -> x.rolled(0, 0, 20, 50, what), NOTHING);
        dueMeasures(what -> x.rolled(0, 1, 60, 120, what), 1, 1, 0, 10, 10, 10, 10, 10, 10, 10);
        MetricStore y = store(GAUGE);
        for (int k = 0; k <= 40; k++) {
            append(y, 0, 10 * k + 10, -k);
        }
        dueMeasures(what -> y.rolled(0, 0, 0, 10, what), NOTHING);
        due(y.rolled(0, 0, 0, 20, 8), -1);
        due(y.rolled(0, 0, 0, 410, 0), 40);
        due(y.rolled(0, 0, 0, 400, 9), -39);
        due(y.rolled(0, 1, 0, 60, 0), 6);
    }
}
