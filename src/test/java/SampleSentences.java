/** The promises 1 to 11: series, the tape, samples and parameters. */
final class SampleSentences extends SentenceCase {
    private SampleSentences() {
    }

    static void test() {
        newObject();
        define();
        feed();
        histogram();
        histogramErrors();
        append();
        observe();
        observeErrors();
        scrape();
        restart();
        parameter();
        series();
        seriesCounts();
        seriesBounds();
        sample();
        sampleErrors();
    }

    private static void newObject() {
        of("1", "Creates a store with undefined series");
        MetricStore x = new MetricStore();
        for (int i = 0; i < 8; i++) {
            int s = i;
            dueMeasures(what -> x.series(s, what), MISSING, 0, 0, 0, MISSING, 0, 0, 0, NONE);
            due(x.series(s, 10), NONE);
            due(x.series(s, 20), NONE);
            due(x.sample(s, 0, 0), NO);
            due(x.rollup(s, 0, 0, 0), NO);
            due(x.window(s, 0, 9, 0), NO);
            due(x.append(s, 1, 1), STATE);
            due(x.scrape(s, 1), STATE);
        }
        dueMeasures(x::count, 0, 0, 0, 0, 0, 0, 30, 8, 0, 0, NONE);
        due(x.step(0, 0), NONE);
        due(x.answerBits(), STATE);
        due(x.undo(), STATE);
        due(x.element(0, 0), NO);
        due(x.ask(1), -100);
    }

    private static void dueWithoutSamples(MetricStore x, int s, int kind) {
        dueMeasures(what -> x.series(s, what), kind, 0, 0, 0, MISSING, 0, 0);
        due(x.sample(s, 0, 0), NO);
        dueMeasures(what -> x.window(s, LEAST, MOST, what), NOTHING);
        dueMeasures(what -> x.rolled(s, 0, 0, 1000000, what), NOTHING);
        dueMeasures(what -> x.rolled(s, 1, 0, 1000020, what), NOTHING);
    }

    private static void define() {
        of("2", "Makes a series a counter or a gauge without samples, whatever it was");
        MetricStore x = new MetricStore();
        for (int kind = 0; kind < 2; kind++) {
            x.define(0, kind);
            dueWithoutSamples(x, 0, kind);
            appendEach(x, 0, 11, 75);
            x.define(0, kind);
            dueWithoutSamples(x, 0, kind);
            due(x.count(2), 0);
            appendEach(x, 0, 1, 2);
            due(x.sample(0, 0, 2), 0);
            x.define(0, 1 - kind);
            dueWithoutSamples(x, 0, 1 - kind);
            Check.histogram(x, 0, "5,6");
            observe(x, 0, 1, 1, 6);
            x.scrape(0, 9);
            x.define(0, kind);
            dueWithoutSamples(x, 0, kind);
            due(x.series(0, 7), 0);
            due(x.series(0, 10), NONE);
            due(x.series(0, 20), NONE);
            due(x.bucket(0, 0, 9, 0), NO);
        }
        of("2", "kind: 0 or 1");
        due(x.define(1, 0), MISSING);
        due(x.define(2, 1), MISSING);
        dueEach(BAD, kind -> x.define(3, kind), -1, 2, LEAST, MOST);
        due(x.series(1, 0), 0);
        due(x.series(2, 0), 1);
        of("2", "Returns the previous kind, -5 if it was undefined");
        due(x.define(4, 1), MISSING);
        due(x.define(4, 0), 1);
        due(x.define(4, 1), 0);
        due(x.define(4, 1), 1);
        Check.histogram(x, 4, "5");
        due(x.define(4, 0), 2);
        of("2", "NONE if there is no such series");
        dueNoSeries(NONE, s -> x.define(s, 0));
        due(x.define(0, 0), 1);
        due(x.define(7, 0), MISSING);
        of("2", "BAD if kind is out of range");
        dueEach(BAD, kind -> x.define(5, kind), -1, 2, -5, LEAST, MOST);
        due(x.series(5, 0), MISSING);
    }

    private static void feed() {
        of("3", "Appends a byte to the tape");
        MetricStore x = new MetricStore();
        dueValue(x, "12*3", 9, 36);
        for (int i = 0; i < 59; i++) {
            x.feed(i % 2 == 0 ? '1' : '+');
        }
        x.feed('7');
        due(x.ask(9), 1);
        due(x.answerBits(), bits(29 + 17));
        of("3", "sign: the byte, 0 to 127");
        due(x.feed(0), 1);
        due(x.feed(127), 2);
        due(x.ask(9), -100);
        of("3", "Returns the new length of the tape");
        for (int i = 1; i <= 60; i++) {
            due(x.feed('1'), i);
            due(x.count(3), i);
        }
        due(x.ask(9), -106);
        due(x.feed('1'), 1);
        of("3", "BAD if sign is out of range");
        dueEach(BAD, x::feed, -1, 128, LEAST, MOST, 256 + '1');
        due(x.count(3), 1);
        of("3", "FULL if the tape has 60 bytes");
        for (int i = 2; i <= 60; i++) {
            due(x.feed('1'), i);
        }
        due(x.feed('1'), FULL);
        due(x.feed(0), FULL);
        due(x.count(3), 60);
        due(x.histogram(0), -106);
        due(x.feed('1'), 1);
    }

    private static void histogram() {
        of("4", "Makes a series a histogram without samples and with all present counts 0, whatever it was");
        MetricStore x = new MetricStore();
        Check.histogram(x, 0, "1,2,3,4,5,6");
        dueWithoutSamples(x, 0, 2);
        dueMeasures(k -> x.series(0, 20 + k), 0, 0, 0, 0, 0, 0, 0, NONE);
        observe(x, 0, 1, 1, 2, 3, 4, 5, 6, 7);
        x.scrape(0, 9);
        Check.histogram(x, 0, "1,2,3,4,5,6");
        dueWithoutSamples(x, 0, 2);
        dueMeasures(k -> x.series(0, 20 + k), 0, 0, 0, 0, 0, 0, 0, NONE);
        due(x.scrape(0, 1), 1);
        due(x.sample(0, 0, 1), 0);
        x.define(0, COUNTER);
        appendEach(x, 0, 1, 65);
        Check.histogram(x, 0, "9");
        dueWithoutSamples(x, 0, 2);
        dueMeasures(k -> x.series(0, 20 + k), 0, 0, NONE);
        due(x.count(2), 0);
        of("4", "its bounds are the text on the tape: numbers, as in formulas, with a comma between two of them");
        due(Check.histogram(x, 1, "1"), 1);
        due(Check.histogram(x, 1, "1,23,456,7890,9999"), 5);
        dueMeasures(k -> x.series(1, 10 + k), 1, 23, 456, 7890, 9999, NONE);
        due(Check.histogram(x, 1, ",1"), -100);
        due(Check.histogram(x, 1, "1,,2"), -102);
        due(Check.histogram(x, 1, "1 2"), -101);
        due(Check.histogram(x, 1, "1, 2"), -102);
        due(Check.histogram(x, 1, "1;2"), -101);
        due(Check.histogram(x, 1, "1,02"), -103);
        due(Check.histogram(x, 1, "1,-2"), -102);
        due(Check.histogram(x, 1, "1,(2)"), -102);
        due(Check.histogram(x, 1, "1+2"), -101);
        due(x.series(1, 14), 9999);
        of("4", "The tape is emptied, also if the text is wrong");
        String[] texts = {"1", "1,2,3,4,5,6", "x", "5,", "1,2,3,4,5,6,7", "5,4", "10000", "0"};
        for (String text : texts) {
            Check.feed(x, text);
            x.histogram(2);
            due(x.count(3), 0);
        }
        of("4", "Returns the number of its bounds");
        due(Check.histogram(x, 3, "4"), 1);
        due(Check.histogram(x, 3, "4,5"), 2);
        due(Check.histogram(x, 3, "4,5,6,7,8,9"), 6);
        due(x.series(3, 7), 6);
        due(x.series(3, 0), 2);
    }

    private static void histogramErrors() {
        MetricStore x = new MetricStore();
        of("4", "NONE if there is no such series, in which case the tape is not emptied");
        Check.feed(x, "5,7");
        dueNoSeries(NONE, x::histogram);
        due(x.count(3), 3);
        due(x.histogram(7), 2);
        Check.feed(x, "x");
        due(x.histogram(8), NONE);
        due(x.histogram(0), -100);
        of("4", "-100 minus the error position if the text has not this form, or has a seventh number, whose first digit is "
            + "wrong then");
        due(Check.histogram(x, 1, ""), -100);
        due(Check.histogram(x, 1, "x"), -100);
        due(Check.histogram(x, 1, "5x"), -101);
        due(Check.histogram(x, 1, "5,"), -102);
        due(Check.histogram(x, 1, "00"), -101);
        due(Check.histogram(x, 1, "123456"), BAD);
        due(Check.histogram(x, 1, "1234567"), -106);
        due(Check.histogram(x, 1, "1,2,3,4,5,6"), 6);
        due(Check.histogram(x, 1, "1,2,3,4,5,6,7"), -112);
        due(Check.histogram(x, 1, "1,2,3,4,5,6,0"), -112);
        due(Check.histogram(x, 1, "1,2,3,4,5,6,"), -112);
        due(Check.histogram(x, 1, "1,2,3,4,5,6,x"), -112);
        due(Check.histogram(x, 1, "1,2,3,4,5,6x"), -111);
        due(Check.histogram(x, 1, "10,20,30,40,50,6000,7000,8"), -120);
        due(Check.histogram(x, 1, "1,2,3,4,5,"), -110);
        due(Check.histogram(x, 1, "999999,999999,999999,999999,999999,999999"), BAD);
        due(Check.histogram(x, 1, "999999,999999,999999,999999,999999,999999,99"), -142);
        due(Check.histogram(x, 1, "1".repeat(60)), -106);
        due(x.series(1, 7), 6);
        of("4", "BAD if the bounds do not ascend or are out of range");
        due(Check.histogram(x, 2, "0"), BAD);
        due(Check.histogram(x, 2, "1"), 1);
        due(Check.histogram(x, 2, "9999"), 1);
        due(Check.histogram(x, 2, "10000"), BAD);
        due(Check.histogram(x, 2, "999999"), BAD);
        due(Check.histogram(x, 2, "9998,9999"), 2);
        due(Check.histogram(x, 2, "9999,10000"), BAD);
        due(Check.histogram(x, 2, "0,1"), BAD);
        due(Check.histogram(x, 2, "3,3"), BAD);
        due(Check.histogram(x, 2, "3,2"), BAD);
        due(Check.histogram(x, 2, "1,2,3,4,5,5"), BAD);
        due(Check.histogram(x, 2, "2,1,3"), BAD);
        due(Check.histogram(x, 2, "1,3,2"), BAD);
        due(x.series(2, 7), 2);
        due(x.series(2, 10), 9998);
    }

    private static void append() {
        of("5", "Adds a sample to a counter or gauge");
        MetricStore x = histogram("5");
        x.define(1, COUNTER);
        x.define(2, GAUGE);
        append(x, 1, 1, 0, 2, MOST);
        append(x, 2, 999998, LEAST, 999999, MOST);
        dueMeasures(what -> x.sample(1, 1, what), 2, MOST, 1, MOST, 1);
        dueMeasures(what -> x.sample(2, 1, what), 999999, MOST, 1, 4294967295L, 1);
        of("5", "Returns the number of samples that the series keeps then");
        x.define(3, COUNTER);
        for (int time = 1; time <= 64; time++) {
            due(x.append(3, time, 1), time);
        }
        for (int time = 65; time <= 72; time++) {
            due(x.append(3, time, 1), time - 8);
        }
        due(x.append(3, 73, 1), 57);
        x.parameter(1, 2);
        due(x.append(3, 74, 1), 10);
        x.parameter(1, 1);
        due(x.append(3, 75, 1), 3);
        of("5", "NONE if there is no such series");
        dueNoSeries(NONE, s -> x.append(s, 9, 1));
        of("5", "STATE if it is no counter and no gauge");
        due(x.append(0, 9, 1), STATE);
        due(x.append(7, 9, 1), STATE);
        due(x.append(1, 9, 1), 3);
        of("5", "BAD if time is out of range or not greater than that of the latest sample, kept or not, or v is negative "
            + "for a counter");
        MetricStore y = store(COUNTER);
        dueEach(BAD, time -> y.append(0, time, 1), 0, -1, 1000000, LEAST, MOST);
        dueEach(BAD, v -> y.append(0, 9, v), -1, LEAST);
        due(y.append(0, 9, 0), 1);
        dueEach(BAD, time -> y.append(0, time, 1), 9, 8, 1, 0, LEAST);
        due(y.append(0, 10, 1), 2);
        dueEach(BAD, v -> y.append(0, 11, v), -1, LEAST);
        y.parameter(1, 1);
        appendEach(y, 0, 11, 17);
        due(y.series(0, 1), 1);
        dueEach(BAD, time -> y.append(0, time, 1), 17, 16, 10);
        due(y.append(0, 18, 1), 2);
        due(y.append(0, 999999, 1), 3);
        dueEach(BAD, time -> y.append(0, time, 1), 999999, 1000000);
        y.define(0, GAUGE);
        dueEach(1, v -> y.define(0, GAUGE) == GAUGE ? y.append(0, 1, v) : 0, -1, 0, LEAST, MOST);
        dueEach(BAD, time -> y.append(0, time, -1), 1, 0, -1, 1000000);
    }

    private static void observe() {
        of("6", "v: the observed number, 0 or greater");
        MetricStore x = histogram("5,10");
        due(x.observe(0, -1, 1), BAD);
        due(x.observe(0, LEAST, 1), BAD);
        due(x.observe(0, 0, 1), 0);
        due(x.observe(0, MOST, 1), 2);
        of("6", "n: how often it was observed, 1 to 99");
        due(x.observe(0, 1, 0), BAD);
        due(x.observe(0, 1, 1), 0);
        due(x.series(0, 20), 2);
        due(x.observe(0, 1, 99), 0);
        due(x.series(0, 20), 101);
        due(x.observe(0, 1, 100), BAD);
        due(x.observe(0, 1, -1), BAD);
        due(x.series(0, 20), 101);
        of("6", "Adds observations to the present counts of a histogram");
        Check.histogram(x, 1, "5,10");
        observe(x, 1, 99, 5, 6);
        observe(x, 1, 1, 10, 11);
        dueMeasures(k -> x.series(1, 20 + k), 99, 100, 1);
        due(x.series(1, 1), 0);
        due(x.series(1, 3), 0);
        of("6", "Returns the bucket that counts it");
        Check.histogram(x, 2, "1,3,5,7,9,9999");
        dueMeasures(v -> x.observe(2, v, 1), 0, 0, 1, 1, 2, 2, 3, 3, 4, 4, 5);
        due(x.observe(2, 9999, 1), 5);
        due(x.observe(2, 10000, 1), 6);
        Check.histogram(x, 3, "4");
        dueMeasures(v -> x.observe(3, v, 1), 0, 0, 0, 0, 0, 1, 1);
    }

    private static void observeErrors() {
        MetricStore x = histogram("5,10");
        x.define(1, COUNTER);
        x.define(2, GAUGE);
        of("6", "NONE if there is no such series");
        dueNoSeries(NONE, s -> x.observe(s, 1, 1));
        of("6", "STATE if it is no histogram");
        dueEach(STATE, s -> x.observe(s, 1, 1), 1, 2, 3, 7);
        of("6", "BAD if an argument is out of range");
        dueEach(BAD, v -> x.observe(0, v, 1), -1, LEAST);
        dueEach(BAD, n -> x.observe(0, 1, n), 0, -1, 100, LEAST, MOST);
        due(x.restart(0), 0);
        of("6", "FULL if the sum of the present counts would be above 999999");
        // 512 calls reach no more than 50688 observations: what lies beyond is free, but tells the limit.
        for (int i = 0; i < 10101; i++) {
            x.observe(0, 5 + i % 10, 99);
        }
        due(x.observe(0, 1, 1), FULL);
        due(x.restart(0), 999999);
        for (int i = 0; i < 10100; i++) {
            x.observe(0, 5 + i % 10, 99);
        }
        due(x.observe(0, 1, 98), 0);
        due(x.observe(0, 1, 2), FULL);
        due(x.observe(0, 99, 1), 2);
        due(x.observe(0, 7, 1), FULL);
        due(x.scrape(0, 1), 1);
        due(x.sample(0, 0, 1), 999999);
    }

    private static void scrape() {
        of("7", "Adds a sample with the present counts to a histogram");
        MetricStore x = histogram("5,10");
        x.scrape(0, 1);
        observe(x, 0, 9, 5, 6, 99);
        x.scrape(0, 2);
        dueMeasures(what -> x.sample(0, 0, what), 1, 0, 0, 0, 0);
        dueMeasures(k -> x.sample(0, 0, 10 + k), 0, 0, 0, NO);
        dueMeasures(what -> x.sample(0, 1, what), 2, 27, 1, 27, 1);
        dueMeasures(k -> x.sample(0, 1, 10 + k), 9, 9, 9, NO);
        dueMeasures(k -> x.series(0, 20 + k), 9, 9, 9, NONE);
        of("7", "Returns the number of samples that the series keeps then");
        Check.histogram(x, 3, "7");
        for (int time = 1; time <= 64; time++) {
            due(x.scrape(3, time), time);
        }
        due(x.scrape(3, 65), 57);
        x.parameter(1, 1);
        for (int time = 66; time <= 72; time++) {
            due(x.scrape(3, time), time - 64);
        }
        due(x.scrape(3, 73), 1);
        of("7", "NONE if there is no such series");
        dueNoSeries(NONE, s -> x.scrape(s, 9));
        of("7", "STATE if it is no histogram");
        x.define(1, COUNTER);
        x.define(2, GAUGE);
        dueEach(STATE, s -> x.scrape(s, 9), 1, 2, 4, 7);
        of("7", "BAD if time is out of range or not greater than that of the latest sample, kept or not");
        Check.histogram(x, 4, "7");
        dueEach(BAD, time -> x.scrape(4, time), 0, -1, 1000000, LEAST, MOST);
        due(x.scrape(4, 9), 1);
        dueEach(BAD, time -> x.scrape(4, time), 9, 8, 1, 0, LEAST);
        for (int time = 10; time <= 17; time++) {
            x.scrape(4, time);
        }
        due(x.series(4, 1), 1);
        dueEach(BAD, time -> x.scrape(4, time), 17, 16, 9);
        due(x.scrape(4, 18), 2);
        due(x.scrape(4, 999999), 3);
        dueEach(BAD, time -> x.scrape(4, time), 999999, 1000000);
    }

    private static void restart() {
        of("8", "Makes all present counts of a histogram 0");
        MetricStore x = histogram("1,2,3,4,5,6");
        observe(x, 0, 1, 1, 2, 3, 4, 5, 6, 7);
        x.scrape(0, 9);
        x.restart(0);
        dueMeasures(k -> x.series(0, 20 + k), 0, 0, 0, 0, 0, 0, 0, NONE);
        dueMeasures(k -> x.sample(0, 0, 10 + k), 1, 1, 1, 1, 1, 1, 1, NO);
        due(x.series(0, 1), 1);
        due(x.series(0, 7), 6);
        of("8", "Returns their sum before");
        due(x.restart(0), 0);
        observe(x, 0, 99, 1, 2, 3, 4, 5, 6, 7);
        due(x.restart(0), 693);
        due(x.restart(0), 0);
        of("8", "NONE if there is no such series");
        dueNoSeries(NONE, x::restart);
        of("8", "STATE if it is no histogram");
        x.define(1, COUNTER);
        x.define(2, GAUGE);
        dueEach(STATE, x::restart, 1, 2, 3, 7);
    }

    private static void parameter() {
        of("9", "Sets a parameter");
        MetricStore x = new MetricStore();
        x.parameter(0, 17);
        due(x.count(6), 17);
        due(x.count(7), 8);
        x.parameter(1, 3);
        due(x.count(6), 17);
        due(x.count(7), 3);
        of("9", "what: 0 or 1");
        due(x.parameter(0, 8), 17);
        due(x.parameter(1, 8), 3);
        dueEach(NONE, what -> x.parameter(what, 5), -1, 2, LEAST, MOST);
        of("9", "Returns the previous value");
        due(x.parameter(0, 9999), 8);
        due(x.parameter(0, 9999), 9999);
        due(x.parameter(0, 1), 9999);
        due(x.parameter(1, 1), 8);
        due(x.parameter(1, 8), 1);
        due(x.parameter(0, 30), 1);
        of("9", "NONE if what is invalid");
        dueEach(NONE, what -> x.parameter(what, 1), -1, 2, 3, LEAST, MOST);
        due(x.parameter(2, 0), NONE);
        of("9", "BAD if v is out of range");
        dueEach(BAD, v -> x.parameter(0, v), 0, -1, 10000, LEAST, MOST);
        dueEach(BAD, v -> x.parameter(1, v), 0, -1, 9, LEAST, MOST);
        due(x.count(6), 30);
        due(x.count(7), 8);
        dueEach(1, v -> x.parameter(0, v) > 0 ? 1 : 0, 1, 9999, 1);
        dueEach(1, v -> x.parameter(1, v) > 0 ? 1 : 0, 1, 8, 1);
    }

    private static void series() {
        of("10", "what: 0 its kind, -5 if it is undefined");
        MetricStore x = histogram("5,10");
        x.define(1, COUNTER);
        x.define(2, GAUGE);
        due(x.series(0, 0), 2);
        due(x.series(1, 0), 0);
        due(x.series(2, 0), 1);
        dueEach(MISSING, s -> x.series(s, 0), 3, 4, 5, 6, 7);
        of("10", "4 the time of its latest sample, -5 if it never had one");
        dueEach(MISSING, s -> x.series(s, 4), 0, 1, 2, 3, 7);
        append(x, 1, 1, 5);
        due(x.series(1, 4), 1);
        append(x, 1, 999999, 5);
        due(x.series(1, 4), 999999);
        x.scrape(0, 9);
        due(x.series(0, 4), 9);
        x.parameter(1, 1);
        appendEach(x, 2, 1, 9);
        due(x.series(2, 4), 9);
        x.define(1, COUNTER);
        due(x.series(1, 4), MISSING);
        of("10", "7 the bounds of a histogram, 0 for others");
        due(x.series(0, 7), 2);
        dueEach(0, s -> x.series(s, 7), 1, 2, 3, 7);
        Check.histogram(x, 3, "1,2,3,4,5,6");
        due(x.series(3, 7), 6);
        x.define(3, COUNTER);
        due(x.series(3, 7), 0);
        of("10", "NONE if there is no such series, what is invalid or there is no such bound or bucket");
        dueNoSeries(NONE, s -> x.series(s, 0));
        dueEach(NONE, what -> x.series(0, what), -1, 8, 9, 12, 13, 16, 19, 23, 24, 27, 30, LEAST, MOST);
        dueEach(NONE, what -> x.series(2, what), -1, 8, 9, 10, 19, 20, LEAST, MOST);
        dueEach(NONE, what -> x.series(7, what), -1, 8, 9, 10, 19, 20, LEAST, MOST);
    }

    private static void seriesCounts() {
        MetricStore x = store(COUNTER);
        of("10", "1 the samples that it keeps");
        due(x.series(0, 1), 0);
        append(x, 0, 1, 1);
        due(x.series(0, 1), 1);
        appendEach(x, 0, 2, 64);
        due(x.series(0, 1), 64);
        appendEach(x, 0, 65, 65);
        due(x.series(0, 1), 57);
        of("10", "2 its blocks");
        due(x.series(1, 2), 0);
        due(x.series(0, 2), 8);
        x.define(1, COUNTER);
        due(x.series(1, 2), 0);
        appendEach(x, 1, 1, 8);
        due(x.series(1, 2), 1);
        appendEach(x, 1, 9, 9);
        due(x.series(1, 2), 2);
        of("10", "3 the samples that it ever had");
        due(x.series(2, 3), 0);
        due(x.series(0, 3), 65);
        due(x.series(1, 3), 9);
        x.parameter(1, 1);
        due(x.series(0, 3), 65);
        due(x.series(0, 1), 1);
        x.define(1, GAUGE);
        due(x.series(1, 3), 0);
        of("10", "5 and 6 the rollups of the resolutions 0 and 1");
        x.define(2, GAUGE);
        due(x.series(2, 5), 0);
        due(x.series(2, 6), 0);
        append(x, 2, 10, 1);
        due(x.series(2, 5), 1);
        due(x.series(2, 6), 1);
        append(x, 2, 11, 1, 60, 1, 61, 1);
        due(x.series(2, 5), 4);
        due(x.series(2, 6), 2);
        for (int k = 2; k <= 39; k++) {
            append(x, 2, 60 * k + 1, 1);
        }
        due(x.series(2, 5), 40);
        due(x.series(2, 6), 40);
        append(x, 2, 60 * 40 + 1, 1);
        due(x.series(2, 6), 40);
    }

    private static void seriesBounds() {
        MetricStore x = histogram("1,2,30,400,5000,9999");
        of("10", "10 + k the bound k of a histogram");
        dueMeasures(k -> x.series(0, 10 + k), 1, 2, 30, 400, 5000, 9999, NONE);
        Check.histogram(x, 0, "8");
        dueMeasures(k -> x.series(0, 10 + k), 8, NONE);
        x.define(1, COUNTER);
        due(x.series(1, 10), NONE);
        of("10", "20 + k the present count of its bucket k");
        dueMeasures(k -> x.series(0, 20 + k), 0, 0, NONE);
        observe(x, 0, 3, 8);
        observe(x, 0, 4, 9);
        dueMeasures(k -> x.series(0, 20 + k), 3, 4, NONE);
        due(x.series(1, 20), NONE);
    }

    private static void sample() {
        of("11", "i: the index, from 0 for the earliest kept one");
        MetricStore x = store(COUNTER);
        appendEach(x, 0, 1, 64);
        due(x.sample(0, 0, 0), 1);
        due(x.sample(0, 63, 0), 64);
        due(x.sample(0, 64, 0), NO);
        due(x.sample(0, -1, 0), NO);
        appendEach(x, 0, 65, 65);
        due(x.sample(0, 0, 0), 9);
        due(x.sample(0, 56, 0), 65);
        due(x.sample(0, 57, 0), NO);
        x.parameter(1, 1);
        due(x.sample(0, 0, 0), 65);
        due(x.sample(0, 1, 0), NO);
        MetricStore y = store(COUNTER, 10, 5, 11, 5, 12, 4, 99, 7);
        of("11", "2 what it belongs to: 0 no pair, 1 a pair that is neither, 2 a reset, 3 a gap");
        dueMeasures(i -> y.sample(0, i, 2), 0, 1, 2, 3, NO);
        of("11", "3 the change of its pair, 0 without one");
        dueMeasures(i -> y.sample(0, i, 3), 0, 0, 4, 0, NO);
        MetricStore z = store(GAUGE, 1, LEAST, 2, MOST, 3, LEAST);
        dueMeasures(i -> z.sample(0, i, 3), 0, 4294967295L, -4294967295L, NO);
        of("11", "4 the time that its pair covers, 0 without one");
        dueMeasures(i -> y.sample(0, i, 4), 0, 1, 1, 0, NO);
        append(y, 0, 129, 9);
        due(y.sample(0, 4, 4), 30);
        of("11", "10 + k the count of bucket k of a histogram");
        MetricStore h = observed("1,2,3,4,5,6", 1, 2, 2, 7, 8);
        dueMeasures(k -> h.sample(0, 0, 10 + k), 0, 0, 0, 0, 0, 0, 0, NO);
        dueMeasures(k -> h.sample(0, 1, 10 + k), 1, 2, 0, 0, 0, 0, 2, NO);
    }

    private static void sampleErrors() {
        of("11", "NO if there is no such series or sample or what is invalid");
        MetricStore x = observed("5", 1);
        x.define(1, COUNTER);
        append(x, 1, 9, 9);
        x.define(2, GAUGE);
        dueNoSeries(NO, s -> x.sample(s, 0, 0));
        dueEach(NO, i -> x.sample(0, i, 0), -1, 2, 3, LEAST, MOST);
        dueEach(NO, i -> x.sample(1, i, 0), -1, 1, LEAST, MOST);
        dueEach(NO, i -> x.sample(2, i, 0), -1, 0, 1, LEAST, MOST);
        dueEach(NO, i -> x.sample(3, i, 0), -1, 0, 1, LEAST, MOST);
        dueEach(NO, what -> x.sample(0, 0, what), -1, 5, 9, 12, 17, 20, LEAST, MOST);
        dueEach(NO, what -> x.sample(1, 0, what), -1, 5, 9, 10, 11, LEAST, MOST);
        due(x.sample(0, 1, 11), 0);
        due(x.sample(1, 0, 4), 0);
    }
}
