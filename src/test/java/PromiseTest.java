/** One method for each promise of the document: ordinary inputs, the edges that it names, and wrong inputs. */
public final class PromiseTest {
    private static final int NONE = -1, BAD = -2, STATE = -3, FULL = -4, MISSING = -5;
    private static final long NO = Long.MIN_VALUE;
    private static final int LEAST = Integer.MIN_VALUE, MOST = Integer.MAX_VALUE;

    private PromiseTest() {
    }

    private static void due(String call, long got, long want) {
        Check.due(call, got, want);
    }

    public static void main(String[] args) {
        promise1NewObject();
        promise2Define();
        promise3Feed();
        promise4Histogram();
        promise5Append();
        promise6Observe();
        promise7Scrape();
        promise8Restart();
        promise9Parameter();
        promise10Series();
        promise11Sample();
        promise12Window();
        promise13Rolled();
        promise14Differs();
        promise15Rollup();
        promise16Fused();
        promise17RateBits();
        promise18Bucket();
        promise19Merged();
        promise20Quantile();
        promise21Ask();
        promise21AskWrongTexts();
        promise21AskOpen();
        promise21AskSteps();
        promise22AnswerBits();
        promise23Step();
        promise24Explained();
        promise25Store();
        promise26Copy();
        promise27Again();
        promise28Element();
        promise29Image();
        promise30Undo();
        promise31Count();
        Check.end("PromiseTest");
    }

    /** A counter 0 with a reset at 20 and a gap at 60, and a gauge 1. */
    private static MetricStore plain() {
        MetricStore x = new MetricStore();
        x.define(0, 0);
        x.define(1, 1);
        x.append(0, 5, 10);
        x.append(0, 12, 15);
        x.append(0, 20, 4);
        x.append(0, 60, 9);
        x.append(0, 61, 9);
        x.append(1, 10, -5);
        x.append(1, 30, 7);
        return x;
    }

    private static void promise1NewObject() {
        due("NONE", MetricStore.NONE, -1);
        due("BAD", MetricStore.BAD, -2);
        due("STATE", MetricStore.STATE, -3);
        due("FULL", MetricStore.FULL, -4);
        due("NO", MetricStore.NO, Long.MIN_VALUE);
        MetricStore x = new MetricStore();
        for (int s = 0; s < 8; s++) {
            due("1: kind", x.series(s, 0), MISSING);
            due("1: kept", x.series(s, 1), 0);
            due("1: window", x.window(s, 0, 999999, 0), NO);
        }
        for (int what = 0; what < 6; what++) {
            due("1: count " + what, x.count(what), 0);
        }
        due("1: gap", x.count(6), 30);
        due("1: retention", x.count(7), 8);
        due("1: answerBits", x.answerBits(), STATE);
        due("1: undo", x.undo(), STATE);
        due("1: row", x.element(0, 0), NO);
        MetricStore y = new MetricStore();
        x.define(0, 0);
        due("1: another object", y.series(0, 0), MISSING);
    }

    private static void promise2Define() {
        MetricStore x = new MetricStore();
        due("2: counter", x.define(0, 0), MISSING);
        due("2: gauge", x.define(7, 1), MISSING);
        due("2: again", x.define(0, 1), 0);
        due("2: again", x.define(0, 0), 1);
        due("2: series -1", x.define(-1, 0), NONE);
        due("2: series 8", x.define(8, 0), NONE);
        due("2: both wrong", x.define(8, 2), NONE);
        due("2: kind 2", x.define(0, 2), BAD);
        due("2: kind -1", x.define(0, -1), BAD);
        due("2: kind stays", x.series(0, 0), 0);
        x.append(0, 10, 1);
        due("2: with samples", x.define(0, 0), 0);
        due("2: samples are gone", x.series(0, 1), 0);
        due("2: ever", x.series(0, 3), 0);
        due("2: latest", x.series(0, 4), MISSING);
        due("2: rollups are gone", x.series(0, 5), 0);
        due("2: rollups are gone", x.series(0, 6), 0);
        due("2: an early time again", x.append(0, 1, 1), 1);
        due("2: no pair", x.sample(0, 0, 2), 0);
        Check.histogram(x, 3, "5,6");
        x.observe(3, 1, 1);
        due("2: was a histogram", x.define(3, 0), 2);
        due("2: no bounds", x.series(3, 7), 0);
        due("2: no buckets", x.series(3, 20), NONE);
        due("2: a counter now", x.append(3, 1, 1), 1);
        dueNothingLeft(x);
    }

    /** What dropped samples and those of an earlier definition had is nowhere in the later ones. */
    private static void dueNothingLeft(MetricStore x) {
        x.parameter(1, 1);
        Check.histogram(x, 5, "5,6");
        for (int i = 1; i <= 10; i++) {
            x.observe(5, 5, 9);
            x.scrape(5, i);
        }
        Check.histogram(x, 5, "5,6");
        for (int i = 0; i < 30; i++) {
            x.scrape(5, 100 + 50 * i);
            int at = x.series(5, 1) - 1;
            due("2: pair " + i, x.sample(5, at, 2), i == 0 ? 0 : 3);
            due("2: change " + i, x.sample(5, at, 3), 0);
            due("2: covered " + i, x.sample(5, at, 4), 0);
            due("2: count " + i, x.sample(5, at, 10), 0);
            due("2: bucket " + i, x.bucket(5, 99, 9999, 0), 0);
        }
        x.define(5, 0);
        for (int i = 1; i <= 20; i++) {
            x.append(5, i, 20 - i);
        }
        for (int i = 0; i < 8; i++) {
            x.define(5, 1);
            for (int j = 0; j <= i; j++) {
                x.append(5, j + 1, j);
            }
            due("2: first pair " + i, x.sample(5, 0, 2), 0);
            due("2: first change " + i, x.sample(5, 0, 3), 0);
            due("2: first covered " + i, x.sample(5, 0, 4), 0);
        }
    }

    private static void promise3Feed() {
        MetricStore x = new MetricStore();
        due("3: -1", x.feed(-1), BAD);
        due("3: 128", x.feed(128), BAD);
        due("3: least", x.feed(LEAST), BAD);
        due("3: 0", x.feed(0), 1);
        due("3: 127", x.feed(127), 2);
        for (int i = 3; i <= 60; i++) {
            due("3: byte " + i, x.feed('1'), i);
        }
        due("3: full", x.feed('1'), FULL);
        due("3: full and bad", x.feed(128), BAD);
        due("3: length", x.count(3), 60);
        due("3: wrong first byte", x.ask(1), -100);
        due("3: empty", x.count(3), 0);
        due("3: one", x.feed('1'), 1);
    }

    private static void promise4Histogram() {
        MetricStore x = new MetricStore();
        due("4: three", Check.histogram(x, 0, "10,20,50"), 3);
        due("4: bound", x.series(0, 12), 50);
        due("4: one", Check.histogram(x, 1, "9999"), 1);
        due("4: six", Check.histogram(x, 2, "1,2,3,4,5,6"), 6);
        due("4: bucket 6", x.series(2, 26), 0);
        due("4: seven", Check.histogram(x, 3, "1,2,3,4,5,6,7"), -112);
        due("4: six and a comma", Check.histogram(x, 3, "1,2,3,4,5,6,"), -112);
        due("4: six and no number", Check.histogram(x, 3, "1,2,3,4,5,6,,"), -112);
        due("4: empty", Check.histogram(x, 3, ""), -100);
        due("4: comma", Check.histogram(x, 3, ",1"), -100);
        due("4: ends", Check.histogram(x, 3, "12,"), -103);
        due("4: two commas", Check.histogram(x, 3, "12,,3"), -103);
        due("4: space", Check.histogram(x, 3, "1, 2"), -102);
        due("4: sign", Check.histogram(x, 3, "-1"), -100);
        due("4: leading zero", Check.histogram(x, 3, "01"), -101);
        due("4: seven digits", Check.histogram(x, 3, "1234567"), -106);
        due("4: trailing", Check.histogram(x, 3, "1;"), -101);
        due("4: a wrong text leaves the state", x.series(3, 0), MISSING);
        due("4: equal", Check.histogram(x, 3, "5,5"), BAD);
        due("4: emptied", x.count(3), 0);
        due("4: descending", Check.histogram(x, 3, "5,4"), BAD);
        due("4: zero", Check.histogram(x, 3, "0,5"), BAD);
        due("4: too great", Check.histogram(x, 3, "10000"), BAD);
        due("4: six digits", Check.histogram(x, 3, "5,999999"), BAD);
        due("4: text before range", Check.histogram(x, 3, "5,4,"), -104);
        due("4: still undefined", x.series(3, 0), MISSING);
        Check.feed(x, "5");
        due("4: series 8", x.histogram(8), NONE);
        due("4: series -1", x.histogram(-1), NONE);
        due("4: not emptied", x.count(3), 1);
        x.observe(0, 1, 1);
        x.scrape(0, 10);
        due("4: over another", x.histogram(0), 1);
        due("4: no samples", x.series(0, 1), 0);
        due("4: present counts", x.series(0, 20), 0);
        due("4: fewer buckets", x.series(0, 22), NONE);
        due("4: no rollups", x.series(0, 5), 0);
        x.define(4, 0);
        x.append(4, 1, 1);
        due("4: over a counter", Check.histogram(x, 4, "7"), 1);
        due("4: kind", x.series(4, 0), 2);
        due("4: ever", x.series(4, 3), 0);
    }

    private static void promise5Append() {
        MetricStore x = new MetricStore();
        x.define(0, 0);
        x.define(1, 1);
        Check.histogram(x, 2, "5");
        due("5: series 8", x.append(8, 1, 1), NONE);
        due("5: series -1", x.append(-1, 1, 1), NONE);
        due("5: undefined", x.append(3, 0, -1), STATE);
        due("5: histogram", x.append(2, 1, 1), STATE);
        due("5: time 0", x.append(0, 0, 1), BAD);
        due("5: time 1000000", x.append(0, 1000000, 1), BAD);
        due("5: least time", x.append(0, LEAST, 1), BAD);
        due("5: negative counter", x.append(0, 1, -1), BAD);
        due("5: zero counter", x.append(0, 1, 0), 1);
        due("5: the same time", x.append(0, 1, 1), BAD);
        due("5: most", x.append(0, 2, MOST), 2);
        due("5: last time", x.append(0, 999999, 1), 3);
        due("5: behind the last", x.append(0, 999999, 1), BAD);
        due("5: negative gauge", x.append(1, 5, LEAST), 1);
        due("5: earlier", x.append(1, 4, 1), BAD);
        due("5: great change", x.append(1, 6, MOST), 2);
        due("5: change", x.sample(1, 1, 3), 4294967295L);
        due("5: gauges have no resets", x.append(1, 7, 0), 3);
        due("5: plain pair", x.sample(1, 2, 2), 1);
        due("5: negative change", x.sample(1, 2, 3), -MOST);
        x.parameter(1, 1);
        x.define(1, 1);
        for (int i = 1; i <= 8; i++) {
            due("5: block", x.append(1, i, i), i);
        }
        due("5: a new block", x.append(1, 9, 9), 1);
        due("5: pair with a dropped one", x.sample(1, 0, 2), 1);
        due("5: its change", x.sample(1, 0, 3), 1);
        due("5: ever", x.series(1, 3), 9);
        x.parameter(1, 8);
        for (int i = 10; i <= 72; i++) {
            due("5: eight blocks", x.append(1, i, i), i - 8);
        }
        due("5: blocks", x.series(1, 2), 8);
        due("5: the ninth block", x.append(1, 73, 73), 57);
        due("5: earliest", x.sample(1, 0, 0), 17);
    }

    private static void promise6Observe() {
        MetricStore x = new MetricStore();
        Check.histogram(x, 0, "10,20,50");
        x.define(1, 0);
        due("6: zero", x.observe(0, 0, 1), 0);
        due("6: on a bound", x.observe(0, 10, 99), 0);
        due("6: above it", x.observe(0, 11, 2), 1);
        due("6: last bound", x.observe(0, 50, 3), 2);
        due("6: last bucket", x.observe(0, 51, 4), 3);
        due("6: greatest", x.observe(0, MOST, 1), 3);
        due("6: present", x.series(0, 20), 100);
        due("6: present", x.series(0, 23), 5);
        due("6: no series", x.observe(8, -1, 0), NONE);
        due("6: no series", x.observe(-1, 1, 1), NONE);
        due("6: counter", x.observe(1, -1, 0), STATE);
        due("6: undefined", x.observe(2, 1, 1), STATE);
        due("6: negative", x.observe(0, -1, 1), BAD);
        due("6: n 0", x.observe(0, 1, 0), BAD);
        due("6: n 100", x.observe(0, 1, 100), BAD);
        due("6: n most", x.observe(0, 1, MOST), BAD);
        due("6: present stays", x.series(0, 20), 100);
        due("6: no sample", x.series(0, 1), 0);
        due("6: six bounds", Check.histogram(x, 2, "1,2,3,4,5,6"), 6);
        for (int v = 0; v < 9; v++) {
            due("6: of six bounds", x.observe(2, v, 1), Math.min(6, Math.max(0, v - 1)));
        }
        // 512 calls reach no more than 50688 observations: what lies beyond is free, but tells the limit.
        x = new MetricStore();
        Check.histogram(x, 0, "10");
        for (int i = 0; i < 10101; i++) {
            x.observe(0, i % 20, 99);
        }
        due("6: 999999", x.restart(0), 999999);
        for (int i = 0; i < 10100; i++) {
            x.observe(0, 1, 99);
        }
        x.observe(0, 11, 98);
        due("6: full", x.observe(0, 1, 2), FULL);
        due("6: bad before full", x.observe(0, 1, 100), BAD);
        due("6: just so", x.observe(0, 1, 1), 0);
        due("6: full", x.observe(0, 1, 1), FULL);
        due("6: sum", x.restart(0), 999999);
    }

    private static void promise7Scrape() {
        MetricStore x = new MetricStore();
        Check.histogram(x, 0, "10,20");
        x.define(1, 1);
        due("7: no series", x.scrape(8, 0), NONE);
        due("7: no series", x.scrape(-1, 0), NONE);
        due("7: gauge", x.scrape(1, 0), STATE);
        due("7: undefined", x.scrape(2, 1), STATE);
        due("7: time 0", x.scrape(0, 0), BAD);
        due("7: time 1000000", x.scrape(0, 1000000), BAD);
        due("7: empty counts", x.scrape(0, 5), 1);
        due("7: value", x.sample(0, 0, 1), 0);
        due("7: the same time", x.scrape(0, 5), BAD);
        x.observe(0, 1, 4);
        x.observe(0, 15, 2);
        due("7: second", x.scrape(0, 15), 2);
        due("7: value", x.sample(0, 1, 1), 6);
        due("7: count", x.sample(0, 1, 10), 4);
        due("7: count", x.sample(0, 1, 11), 2);
        due("7: pair", x.sample(0, 1, 2), 1);
        due("7: change", x.sample(0, 1, 3), 6);
        x.restart(0);
        x.observe(0, 15, 7);
        due("7: the sum is greater", x.scrape(0, 16), 3);
        due("7: no reset", x.sample(0, 2, 2), 1);
        due("7: at least 0", x.bucket(0, 15, 16, 0), 0);
        due("7: bucket", x.bucket(0, 15, 16, 1), 5);
        due("7: change", x.sample(0, 2, 3), 1);
        x.restart(0);
        x.observe(0, 15, 6);
        due("7: the sum is less", x.scrape(0, 17), 4);
        due("7: reset", x.sample(0, 3, 2), 2);
        due("7: bucket of a reset", x.bucket(0, 16, 17, 1), 6);
        x.observe(0, 1, 1);
        due("7: gap", x.scrape(0, 48), 5);
        due("7: gap", x.sample(0, 4, 2), 3);
        due("7: bucket of a gap", x.bucket(0, 17, 48, 0), 0);
        x.observe(0, 1, 2);
        due("7: last time", x.scrape(0, 999999), 6);
        due("7: behind", x.scrape(0, 1), BAD);
    }

    private static void promise8Restart() {
        MetricStore x = new MetricStore();
        Check.histogram(x, 0, "10,20");
        x.define(1, 1);
        due("8: nothing", x.restart(0), 0);
        x.observe(0, 1, 4);
        x.observe(0, 99, 3);
        x.scrape(0, 7);
        due("8: sum", x.restart(0), 7);
        due("8: present", x.series(0, 20), 0);
        due("8: present", x.series(0, 22), 0);
        due("8: again", x.restart(0), 0);
        due("8: the sample stays", x.sample(0, 0, 10), 4);
        due("8: the bounds stay", x.series(0, 11), 20);
        due("8: gauge", x.restart(1), STATE);
        due("8: undefined", x.restart(7), STATE);
        due("8: no series", x.restart(8), NONE);
        due("8: no series", x.restart(-1), NONE);
    }

    private static void promise9Parameter() {
        MetricStore x = new MetricStore();
        due("9: gap", x.parameter(0, 9999), 30);
        due("9: gap", x.parameter(0, 1), 9999);
        due("9: gap 0", x.parameter(0, 0), BAD);
        due("9: gap 10000", x.parameter(0, 10000), BAD);
        due("9: retention", x.parameter(1, 1), 8);
        due("9: retention", x.parameter(1, 8), 1);
        due("9: retention 0", x.parameter(1, 0), BAD);
        due("9: retention 9", x.parameter(1, 9), BAD);
        due("9: what 2", x.parameter(2, 0), NONE);
        due("9: what -1", x.parameter(-1, 1), NONE);
        due("9: gap stays", x.count(6), 1);
        due("9: retention stays", x.count(7), 8);
        x.define(0, 1);
        x.define(1, 1);
        x.append(0, 1, 1);
        x.append(0, 2, 3);
        x.append(0, 4, 6);
        due("9: not above the gap", x.sample(0, 1, 2), 1);
        due("9: above the gap", x.sample(0, 2, 2), 3);
        x.parameter(0, 100);
        due("9: fixed for good", x.sample(0, 2, 2), 3);
        for (int i = 5; i <= 40; i++) {
            x.append(0, i, i);
            x.append(1, i, i);
        }
        due("9: kept", x.series(0, 1), 39);
        x.parameter(1, 3);
        due("9: lowered", x.series(0, 1), 23);
        due("9: earliest", x.sample(0, 0, 0), 18);
        due("9: other series", x.series(1, 1), 20);
        due("9: dropped", x.count(2), 32);
        due("9: latest", x.series(0, 4), 40);
        due("9: pair stays", x.sample(0, 0, 2), 1);
        due("9: raised", x.parameter(1, 5), 3);
        due("9: nothing comes back", x.series(0, 1), 23);
        due("9: next", x.append(0, 41, 1), 24);
        due("9: next", x.append(0, 42, 1), 25);
        due("9: blocks", x.series(0, 2), 4);
    }

    private static void promise10Series() {
        MetricStore x = plain();
        Check.histogram(x, 2, "10,20");
        x.observe(2, 15, 3);
        due("10: kind", x.series(0, 0), 0);
        due("10: kind", x.series(1, 0), 1);
        due("10: kind", x.series(2, 0), 2);
        due("10: kind", x.series(3, 0), MISSING);
        due("10: kept", x.series(0, 1), 5);
        due("10: blocks", x.series(0, 2), 1);
        due("10: blocks", x.series(2, 2), 0);
        due("10: ever", x.series(0, 3), 5);
        due("10: latest", x.series(0, 4), 61);
        due("10: latest", x.series(2, 4), MISSING);
        due("10: latest of an undefined one", x.series(3, 4), MISSING);
        due("10: rollups", x.series(0, 5), 4);
        due("10: rollups", x.series(0, 6), 2);
        due("10: bounds", x.series(0, 7), 0);
        due("10: bounds", x.series(2, 7), 2);
        due("10: bounds of an undefined one", x.series(3, 7), 0);
        due("10: 8", x.series(2, 8), NONE);
        due("10: 9", x.series(2, 9), NONE);
        due("10: bound", x.series(2, 10), 10);
        due("10: bound", x.series(2, 11), 20);
        due("10: no bound", x.series(2, 12), NONE);
        due("10: present", x.series(2, 20), 0);
        due("10: present", x.series(2, 21), 3);
        due("10: present", x.series(2, 22), 0);
        due("10: no bucket", x.series(2, 23), NONE);
        due("10: 19", x.series(2, 19), NONE);
        due("10: of a counter", x.series(0, 10), NONE);
        due("10: of a counter", x.series(0, 20), NONE);
        due("10: of an undefined one", x.series(3, 20), NONE);
        due("10: -1", x.series(0, -1), NONE);
        due("10: least", x.series(0, LEAST), NONE);
        due("10: most", x.series(0, MOST), NONE);
        due("10: no series", x.series(8, 0), NONE);
        due("10: no series", x.series(-1, 0), NONE);
        for (int i = 0; i < 41; i++) {
            x.append(1, 100 + 60 * i, i);
        }
        x.define(4, 1);
        x.append(4, 9, 1);
        due("10: latest of one", x.series(4, 4), 9);
        due("10: at most 40", x.series(1, 5), 40);
        due("10: at most 40", x.series(1, 6), 40);
        due("10: ever", x.series(1, 3), 43);
    }

    private static void promise11Sample() {
        MetricStore x = plain();
        long[][] wanted = {
            {5, 10, 0, 0, 0}, {12, 15, 1, 5, 7}, {20, 4, 2, 4, 8}, {60, 9, 3, 0, 0}, {61, 9, 1, 0, 1},
        };
        for (int i = 0; i < 5; i++) {
            for (int what = 0; what < 5; what++) {
                due("11: " + i + ", " + what, x.sample(0, i, what), wanted[i][what]);
            }
        }
        due("11: gauge", x.sample(1, 0, 1), -5);
        due("11: gauge", x.sample(1, 1, 3), 12);
        due("11: counter has no buckets", x.sample(0, 0, 10), NO);
        due("11: 5", x.sample(0, 0, 5), NO);
        due("11: -1", x.sample(0, 0, -1), NO);
        due("11: least", x.sample(0, 0, LEAST), NO);
        due("11: no sample", x.sample(0, 5, 0), NO);
        due("11: no sample", x.sample(0, -1, 0), NO);
        due("11: no series", x.sample(8, 0, 0), NO);
        due("11: no series", x.sample(-1, 0, 0), NO);
        due("11: undefined", x.sample(3, 0, 0), NO);
        x.append(0, 91, 8);
        due("11: the gap itself is covered", x.sample(0, 5, 4), 30);
        due("11: a reset over it", x.sample(0, 5, 2), 2);
        x.append(0, 122, 9);
        due("11: one more is a gap", x.sample(0, 6, 2), 3);
        Check.histogram(x, 2, "10,20");
        x.observe(2, 15, 3);
        x.scrape(2, 4);
        x.observe(2, 15, 3);
        due("11: bucket", x.sample(2, 0, 11), 3);
        due("11: bucket", x.sample(2, 0, 12), 0);
        due("11: no bucket", x.sample(2, 0, 13), NO);
        due("11: 9", x.sample(2, 0, 9), NO);
        x.parameter(1, 1);
        x.append(0, 130, 9);
        x.append(0, 131, 12);
        due("11: from the earliest kept one", x.sample(0, 0, 0), 131);
        due("11: its pair stays", x.sample(0, 0, 3), 3);
        due("11: its time stays", x.sample(0, 0, 4), 1);
    }

    private static void promise12Window() {
        MetricStore x = plain();
        long[] all = {5, 1, 1, 9, 16, 4, 15, 47, 10, 9};
        long[] some = {2, 1, 0, 9, 15, 4, 15, 19, 15, 4};
        long[] empty = {0, 0, 0, 0, 0, NO, NO, 0, NO, NO};
        for (int what = 0; what < 10; what++) {
            due("12: all " + what, x.window(0, LEAST, MOST, what), all[what]);
            due("12: just so " + what, x.window(0, 4, 61, what), all[what]);
            due("12: some " + what, x.window(0, 5, 20, what), some[what]);
            due("12: none " + what, x.window(0, 20, 59, what), empty[what]);
            due("12: empty " + what, x.window(0, 20, 20, what), empty[what]);
            due("12: undefined " + what, x.window(2, 0, 99, what), NO);
        }
        due("12: a > b", x.window(0, 21, 20, 0), NO);
        due("12: no series", x.window(8, 0, 20, 0), NO);
        due("12: no series", x.window(-1, 0, 20, 0), NO);
        due("12: what 10", x.window(0, 0, 99, 10), NO);
        due("12: what -1", x.window(0, 0, 99, -1), NO);
        due("12: negative least", x.window(1, 0, 99, 5), -5);
        due("12: negative greatest", x.window(1, 0, 10, 6), -5);
        x.append(1, 40, MOST);
        x.append(1, 41, MOST);
        due("12: a long sum", x.window(1, 30, 41, 7), 2L * MOST);
        x.parameter(1, 1);
        x.append(0, 62, 10);
        x.append(0, 63, 10);
        x.append(0, 64, 10);
        x.append(0, 65, 13);
        due("12: kept samples alone", x.window(0, 0, 99, 0), 1);
        due("12: change of the kept one", x.window(0, 0, 99, 3), 3);
        Check.histogram(x, 2, "10");
        x.observe(2, 1, 3);
        x.scrape(2, 4);
        due("12: histogram", x.window(2, 0, 4, 7), 3);
    }

    private static void promise13Rolled() {
        MetricStore x = plain();
        long[] all = {5, 1, 1, 9, 16, 4, 15, 47, 10, 9};
        long[] some = {2, 1, 0, 9, 15, 4, 15, 19, 15, 4};
        long[] empty = {0, 0, 0, 0, 0, NO, NO, 0, NO, NO};
        for (int what = 0; what < 10; what++) {
            due("13: all " + what, x.rolled(0, 0, 0, 70, what), all[what]);
            due("13: all " + what, x.rolled(0, 1, 0, 120, what), all[what]);
            due("13: all " + what, x.rolled(0, 0, -2147483640, 2147483640, what), all[what]);
            due("13: some " + what, x.rolled(0, 0, 10, 20, what), some[what]);
            due("13: none " + what, x.rolled(0, 0, 20, 50, what), empty[what]);
            due("13: empty " + what, x.rolled(0, 0, 20, 20, what), empty[what]);
            due("13: undefined " + what, x.rolled(2, 0, 0, 20, what), NO);
        }
        due("13: a > b", x.rolled(0, 0, 20, 10, 0), NO);
        due("13: a", x.rolled(0, 0, 5, 20, 0), NO);
        due("13: b", x.rolled(0, 0, 0, 25, 0), NO);
        due("13: a of 60", x.rolled(0, 1, 10, 60, 0), NO);
        due("13: b of 60", x.rolled(0, 1, 0, 70, 0), NO);
        due("13: resolution 2", x.rolled(0, 2, 0, 60, 0), NO);
        due("13: resolution -1", x.rolled(0, -1, 0, 60, 0), NO);
        due("13: what 10", x.rolled(0, 0, 0, 60, 10), NO);
        due("13: what -1", x.rolled(0, 0, 0, 60, -1), NO);
        due("13: no series", x.rolled(8, 0, 0, 60, 0), NO);
        due("13: no series", x.rolled(-1, 0, 0, 60, 0), NO);
        x.define(0, 1);
        x.parameter(1, 1);
        for (int i = 0; i < 45; i++) {
            x.append(0, 10 * i + 10, i);
        }
        due("13: dropped samples count", x.rolled(0, 0, 0, 450, 0), 40);
        due("13: the earliest rollups are dropped", x.rolled(0, 0, 0, 450, 8), 5);
        due("13: the other resolution keeps them", x.rolled(0, 1, 0, 480, 0), 45);
        due("13: from the samples", x.window(0, 0, 450, 0), 5);
    }

    private static void promise14Differs() {
        MetricStore x = plain();
        due("14: the same", x.differs(0, 0, 0, 100), 0);
        due("14: the same", x.differs(0, 1, 0, 120), 0);
        due("14: neither exists", x.differs(0, 0, 100, 200), 0);
        due("14: empty", x.differs(0, 0, 10, 10), 0);
        due("14: a > b", x.differs(0, 0, 20, 10), NONE);
        due("14: a", x.differs(0, 0, 5, 20), NONE);
        due("14: b", x.differs(0, 1, 0, 50), NONE);
        due("14: undefined", x.differs(2, 0, 0, 10), NONE);
        due("14: no series", x.differs(8, 0, 0, 10), NONE);
        due("14: no resolution", x.differs(0, 2, 0, 60), NONE);
        x.define(0, 0);
        x.parameter(1, 1);
        x.append(0, 1, 9);
        x.append(0, 2, 1);
        x.append(0, 40, 3);
        x.append(0, 41, 3);
        x.append(0, 42, 3);
        x.append(0, 43, 3);
        x.append(0, 44, 3);
        x.append(0, 45, 3);
        x.append(0, 46, 4);
        due("14: all but the last value", x.differs(0, 0, 0, 50), 0x1FF);
        due("14: the dropped ones exist on one side alone", x.differs(0, 0, 0, 10), 0x3FB);
        x.define(1, 1);
        for (int i = 0; i < 41; i++) {
            x.append(1, 10 * i + 10, 0);
        }
        x.parameter(1, 8);
        x.define(1, 1);
        for (int i = 0; i < 41; i++) {
            x.append(1, 10 * i + 10, 0);
        }
        due("14: a dropped rollup", x.differs(1, 0, 0, 10), 0x361);
    }

    private static void promise15Rollup() {
        MetricStore x = plain();
        long[] first = {1, 0, 0, 0, 0, 10, 10, 10, 10, 10, 0};
        long[] second = {2, 1, 0, 9, 15, 4, 15, 19, 15, 4, 1};
        long[] wide = {4, 1, 1, 9, 15, 4, 15, 38, 10, 9, 0};
        for (int what = 0; what <= 10; what++) {
            due("15: first " + what, x.rollup(0, 0, 0, what), first[what]);
            due("15: second " + what, x.rollup(0, 0, 1, what), second[what]);
            due("15: wide " + what, x.rollup(0, 1, 0, what), wide[what]);
        }
        due("15: numbers", x.rollup(0, 0, 2, 10), 5);
        due("15: numbers", x.rollup(0, 0, 3, 10), 6);
        due("15: what 11", x.rollup(0, 0, 0, 11), NO);
        due("15: what -1", x.rollup(0, 0, 0, -1), NO);
        due("15: no rollup", x.rollup(0, 0, 4, 0), NO);
        due("15: no rollup", x.rollup(0, 0, -1, 0), NO);
        due("15: no resolution", x.rollup(0, 2, 0, 0), NO);
        due("15: no resolution", x.rollup(0, -1, 0, 0), NO);
        due("15: no series", x.rollup(8, 0, 0, 0), NO);
        due("15: no series", x.rollup(-1, 0, 0, 0), NO);
        due("15: undefined", x.rollup(2, 0, 0, 0), NO);
        x.define(0, 1);
        for (int i = 0; i < 50; i++) {
            x.append(0, 10 * i + 1, i);
            x.append(0, 10 * i + 10, -i);
        }
        due("15: earliest kept", x.rollup(0, 0, 0, 10), 10);
        due("15: its samples", x.rollup(0, 0, 0, 0), 2);
        due("15: its least", x.rollup(0, 0, 0, 5), -10);
        due("15: its greatest", x.rollup(0, 0, 0, 6), 10);
        for (int i = 0; i < 40; i++) {
            due("15: number " + i, x.rollup(0, 0, i, 10), 10 + i);
            due("15: samples of " + i, x.rollup(0, 0, i, 0), 2);
            due("15: greatest of " + i, x.rollup(0, 0, i, 6), 10 + i);
        }
        due("15: latest", x.rollup(0, 0, 39, 10), 49);
        due("15: no more", x.rollup(0, 0, 40, 10), NO);
        x.append(0, 999999, 7);
        due("15: the last number", x.rollup(0, 0, 39, 10), 99999);
        due("15: the last number", x.rollup(0, 1, x.series(0, 6) - 1, 10), 16666);
    }

    private static void promise16Fused() {
        MetricStore x = plain();
        long[] wide = {4, 1, 1, 9, 15, 4, 15, 38, 10, 9};
        for (int what = 0; what < 10; what++) {
            due("16: " + what, x.fused(0, 0, what), wide[what]);
            due("16: undefined " + what, x.fused(2, 0, what), NO);
        }
        due("16: next", x.fused(0, 1, 7), 9);
        due("16: none", x.fused(0, 2, 0), 0);
        due("16: none", x.fused(0, 2, 5), NO);
        due("16: last", x.fused(0, 16666, 0), 0);
        due("16: behind", x.fused(0, 16667, 0), NO);
        due("16: before", x.fused(0, -1, 0), NO);
        due("16: most", x.fused(0, MOST, 0), NO);
        due("16: what 10", x.fused(0, 0, 10), NO);
        due("16: what -1", x.fused(0, 0, -1), NO);
        due("16: no series", x.fused(8, 0, 0), NO);
        due("16: no series", x.fused(-1, 0, 0), NO);
        x.append(0, 999999, 3);
        due("16: last", x.fused(0, 16666, 0), 1);
        x.define(0, 1);
        for (int i = 0; i < 43; i++) {
            x.append(0, 10 * i + 10, i);
        }
        due("16: kept rollups alone", x.fused(0, 0, 0), 3);
        due("16: kept rollups alone", x.fused(0, 0, 8), 3);
        due("16: the other one", x.rollup(0, 1, 0, 0), 6);
    }

    private static void promise17RateBits() {
        MetricStore x = plain();
        due("17: counter", x.rateBits(0, 0, 100), Float.floatToIntBits((float) (9.0 / 16)));
        due("17: gauge", x.rateBits(1, 0, 100), Float.floatToIntBits((float) (12.0 / 20)));
        due("17: from LEAST to MOST", x.rateBits(1, LEAST, MOST), Float.floatToIntBits((float) (12.0 / 20)));
        due("17: nothing covered", x.rateBits(1, 0, 10), NONE);
        due("17: a gap alone", x.rateBits(0, 59, 60), NONE);
        due("17: empty", x.rateBits(0, 12, 12), NONE);
        due("17: a > b", x.rateBits(0, 100, 0), NONE);
        due("17: undefined", x.rateBits(2, 0, 100), NONE);
        due("17: no series", x.rateBits(8, 0, 100), NONE);
        due("17: no series", x.rateBits(-1, 0, 100), NONE);
        due("17: no change", x.rateBits(0, 60, 61), 0);
        x.append(1, 33, -8);
        due("17: negative", x.rateBits(1, 30, 33), Float.floatToIntBits(-5f));
        x.append(1, 34, LEAST);
        x.append(1, 47, MOST);
        due("17: great", x.rateBits(1, 34, 47), Float.floatToIntBits((float) (4294967295.0 / 13)));
        for (int i = 1; i <= 30; i++) {
            x.define(3, 1);
            x.append(3, 1, 0);
            x.append(3, 1 + i, i * i * i - 700);
            int want = Float.floatToIntBits((float) ((double) (i * i * i - 700) / i));
            due("17: over " + i, x.rateBits(3, 1, 40), want);
        }
    }

    /** Histograms 0 and 1 with unlike bounds that have 20 in common, and 2 with none of theirs. */
    private static MetricStore histograms() {
        MetricStore x = new MetricStore();
        Check.histogram(x, 0, "10,20,50");
        Check.histogram(x, 1, "5,20,100,200");
        Check.histogram(x, 2, "7");
        x.observe(0, 10, 3);
        x.observe(0, 11, 2);
        x.observe(0, 999, 1);
        x.observe(1, 5, 4);
        x.scrape(0, 10);
        x.scrape(1, 10);
        x.scrape(2, 10);
        x.observe(0, 20, 5);
        x.observe(0, 0, 1);
        x.observe(0, 60, 2);
        x.observe(1, 20, 3);
        x.observe(1, 150, 4);
        x.observe(2, 1, 9);
        x.scrape(0, 20);
        x.scrape(1, 20);
        x.scrape(2, 20);
        return x;
    }

    private static void promise18Bucket() {
        MetricStore x = histograms();
        x.define(3, 0);
        x.append(3, 1, 1);
        due("18: 0", x.bucket(0, 0, 20, 0), 1);
        due("18: 1", x.bucket(0, LEAST, MOST, 1), 5);
        due("18: 2", x.bucket(0, 10, 20, 2), 0);
        due("18: 3", x.bucket(0, 19, 20, 3), 2);
        due("18: the first sample has no pair", x.bucket(0, 0, 10, 0), 0);
        due("18: behind", x.bucket(0, 20, 99, 1), 0);
        due("18: empty", x.bucket(0, 20, 20, 1), 0);
        due("18: no bucket", x.bucket(0, 0, 20, 4), NO);
        due("18: no bucket", x.bucket(0, 0, 20, -1), NO);
        due("18: a > b", x.bucket(0, 20, 19, 0), NO);
        due("18: counter", x.bucket(3, 0, 20, 0), NO);
        due("18: undefined", x.bucket(4, 0, 20, 0), NO);
        due("18: no series", x.bucket(8, 0, 20, 0), NO);
        due("18: no series", x.bucket(-1, 0, 20, 0), NO);
        x.restart(0);
        x.observe(0, 1, 6);
        x.scrape(0, 30);
        due("18: reset", x.bucket(0, 20, 30, 0), 6);
        due("18: both", x.bucket(0, 0, 30, 0), 7);
        x.observe(0, 1, 6);
        x.scrape(0, 61);
        due("18: gap", x.bucket(0, 30, 61, 0), 0);
    }

    private static void promise19Merged() {
        MetricStore x = histograms();
        x.define(3, 0);
        due("19: one, bounds", x.merged(1, 0, 20, 0), 3);
        due("19: one, sum", x.merged(1, 0, 20, 1), 8);
        due("19: one, bound", x.merged(1, 0, 20, 12), 50);
        due("19: one, bucket", x.merged(1, 0, 20, 21), 5);
        due("19: one, last bucket", x.merged(1, 0, 20, 23), 2);
        due("19: one, no bound", x.merged(1, 0, 20, 13), NO);
        due("19: one, no bucket", x.merged(1, 0, 20, 24), NO);
        due("19: two, bounds", x.merged(3, 0, 20, 0), 1);
        due("19: two, sum", x.merged(3, 0, 20, 1), 15);
        due("19: two, bound", x.merged(3, 0, 20, 10), 20);
        due("19: two, bucket", x.merged(3, 0, 20, 20), 9);
        due("19: two, last bucket", x.merged(3, 0, 20, 21), 6);
        due("19: two, no bound", x.merged(3, 0, 20, 11), NO);
        due("19: two, no bucket", x.merged(3, 0, 20, 22), NO);
        due("19: three, bounds", x.merged(7, 0, 20, 0), 0);
        due("19: three, sum", x.merged(7, 0, 20, 1), 24);
        due("19: three, bucket", x.merged(7, 0, 20, 20), 24);
        due("19: three, no bound", x.merged(7, 0, 20, 10), NO);
        due("19: empty window", x.merged(3, 20, 20, 1), 0);
        due("19: any numbers", x.merged(3, LEAST, MOST, 1), 15);
        due("19: a > b", x.merged(3, 20, 19, 0), NO);
        due("19: empty set", x.merged(0, 0, 20, 0), NO);
        due("19: a counter", x.merged(9, 0, 20, 0), NO);
        due("19: undefined", x.merged(16, 0, 20, 0), NO);
        due("19: no series", x.merged(257, 0, 20, 0), NO);
        due("19: no series", x.merged(LEAST | 1, 0, 20, 0), NO);
        due("19: no series", x.merged(256, 0, 20, 0), NO);
        due("19: -1", x.merged(-1, 0, 20, 0), NO);
        due("19: what 2", x.merged(1, 0, 20, 2), NO);
        due("19: what 9", x.merged(1, 0, 20, 9), NO);
        due("19: what -1", x.merged(1, 0, 20, -1), NO);
        due("19: what least", x.merged(1, 0, 20, LEAST), NO);
        due("19: what most", x.merged(1, 0, 20, MOST), NO);
        Check.histogram(x, 7, "20,30,50");
        due("19: 0 and 7", x.merged(129, 0, 20, 0), 2);
        due("19: 0 and 7", x.merged(129, 0, 20, 10), 20);
        due("19: 0 and 7", x.merged(129, 0, 20, 11), 50);
        due("19: 0 and 7", x.merged(129, 0, 20, 20), 6);
        due("19: 0 and 7", x.merged(129, 0, 20, 21), 0);
        due("19: 0 and 7", x.merged(129, 0, 20, 22), 2);
        due("19: 0, 1 and 7", x.merged(131, 0, 20, 0), 1);
        x.define(0, 0);
        due("19: a counter as the first", x.merged(3, 0, 20, 0), NO);
        dueSixBounds();
    }

    private static void dueSixBounds() {
        MetricStore x = new MetricStore();
        Check.histogram(x, 0, "1,3,5,7,9,11");
        Check.histogram(x, 1, "2,4,6,8,10,12");
        Check.histogram(x, 2, "1,3,5,8,9,11");
        for (int i = 0; i < 3; i++) {
            x.scrape(i, 1);
            for (int v = 1; v < 14; v++) {
                x.observe(i, v, v);
            }
            x.scrape(i, 9);
        }
        due("19: six, bounds", x.merged(1, 0, 9, 0), 6);
        due("19: six, first", x.merged(1, 0, 9, 20), 1);
        due("19: six, sixth", x.merged(1, 0, 9, 25), 21);
        due("19: six, last", x.merged(1, 0, 9, 26), 25);
        due("19: six, no more", x.merged(1, 0, 9, 27), NO);
        due("19: none in common", x.merged(3, 0, 9, 0), 0);
        due("19: none in common", x.merged(3, 0, 9, 20), 182);
        due("19: five in common", x.merged(5, 0, 9, 0), 5);
        due("19: five in common", x.merged(5, 0, 9, 13), 9);
        due("19: five in common", x.merged(5, 0, 9, 23), 60);
        due("19: five in common", x.merged(5, 0, 9, 25), 50);
    }

    private static void dueQuantile(MetricStore x, int set, int q, long numerator, long denominator) {
        due("20: " + set + ", " + q, x.quantile(set, 0, 20, q, 0), numerator);
        due("20: " + set + ", " + q, x.quantile(set, 0, 20, q, 1), denominator);
    }

    private static void promise20Quantile() {
        MetricStore x = histograms();
        x.define(3, 0);
        dueQuantile(x, 1, 1, 10, 1);
        dueQuantile(x, 1, 12, 10, 1);
        dueQuantile(x, 1, 13, 12, 1);
        dueQuantile(x, 1, 50, 16, 1);
        dueQuantile(x, 1, 75, 20, 1);
        dueQuantile(x, 1, 76, 50, 1);
        dueQuantile(x, 1, 100, 50, 1);
        dueQuantile(x, 2, 1, 10, 1);
        dueQuantile(x, 2, 15, 15, 1);
        dueQuantile(x, 2, 28, 15, 1);
        dueQuantile(x, 2, 42, 20, 1);
        dueQuantile(x, 2, 43, 125, 1);
        dueQuantile(x, 3, 1, 20, 9);
        dueQuantile(x, 3, 20, 20, 3);
        dueQuantile(x, 3, 60, 20, 1);
        dueQuantile(x, 3, 61, 20, 1);
        dueQuantile(x, 4, 100, 7, 1);
        dueQuantile(x, 4, 50, 35, 9);
        dueQuantile(x, 1, 0, NO, NO);
        dueQuantile(x, 1, 101, NO, NO);
        dueQuantile(x, 7, 50, NO, NO);
        dueQuantile(x, 0, 50, NO, NO);
        dueQuantile(x, 8, 50, NO, NO);
        dueQuantile(x, 16, 50, NO, NO);
        dueQuantile(x, 256, 50, NO, NO);
        dueQuantile(x, -1, 50, NO, NO);
        due("20: part 2", x.quantile(1, 0, 20, 50, 2), NO);
        due("20: part -1", x.quantile(1, 0, 20, 50, -1), NO);
        due("20: a > b", x.quantile(1, 20, 0, 50, 0), NO);
        due("20: no counts", x.quantile(1, 20, 20, 50, 0), NO);
        due("20: no counts", x.quantile(1, 0, 10, 50, 1), NO);
        due("20: any numbers", x.quantile(1, LEAST, MOST, 50, 0), 16);
    }

    private static void promise21Ask() {
        MetricStore x = plain();
        Check.feed(x, "1");
        due("21: time 0", x.ask(0), BAD);
        due("21: time 1000000", x.ask(1000000), BAD);
        due("21: not emptied", x.count(3), 1);
        due("21: number", x.ask(999999), 1);
        due("21: emptied", x.count(3), 0);
        due("21: undefined", Check.ask(x, "count(2,5)", 30), 0);
        due("21: no measure", Check.ask(x, "min(0,5)", 30), 0);
        due("21: no measure", Check.ask(x, "max(0,5)", 30), 0);
        due("21: no measure", Check.ask(x, "last(0,5)", 30), 0);
        due("21: nothing covered", Check.ask(x, "rate(0,5)", 30), 0);
        due("21: no samples", Check.ask(x, "avg(0,5)", 30), 0);
        due("21: inc", Check.ask(x, "inc(0,5)", 30), 1);
        due("21: sum", Check.ask(x, "sum(0,0)", 30), 1);
        due("21: divided by 0", Check.ask(x, "1/0", 30), 0);
        due("21: divided by -0", Check.ask(x, "1/-0", 30), 0);
        due("21: 0 divided by 0", Check.ask(x, "0/0", 30), 0);
        due("21: divided by nothing", Check.ask(x, "1/(1-1)", 30), 0);
        dueValue(x, "1-2-3", 0, -4f);
        dueValue(x, "2*3+4*5", 0, 26f);
        dueValue(x, "100/10/5", 0, 2f);
        dueValue(x, "100/(10/5)", 0, 50f);
        dueValue(x, "-(1+2)*3", 0, -9f);
        dueValue(x, "--7", 0, 7f);
        dueValue(x, "1--1", 0, 2f);
        dueValue(x, "2*-3", 0, -6f);
        dueValue(x, "1/3", 0, (float) (1.0 / 3));
        dueValue(x, "rate(0,56)", 61, (float) (9.0 / 16));
        dueValue(x, "rate(0,57)", 61, (float) (9.0 / 16));
        dueValue(x, "rate(0,50)", 61, (float) (9.0 / 16));
        dueValue(x, "rate(0,49)", 61, (float) (4.0 / 9));
        dueValue(x, "inc(0,999999)", 20, 9f);
        dueValue(x, "avg(0,999999)", 61, (float) (47.0 / 5));
        dueValue(x, "min(0,60)", 61, 4f);
        dueValue(x, "max(0,60)", 61, 15f);
        dueValue(x, "sum(0,60)", 61, 47f);
        dueValue(x, "count(0,60)", 61, 5f);
        dueValue(x, "count(0,56)", 61, 4f);
        dueValue(x, "last(0,60)", 61, 9f);
        dueValue(x, "count(0,0)", 61, 0f);
        dueValue(x, "last(1,100)-min(1,100)", 99, 12f);
        String longest = "000000";
        Check.feed(x, longest);
        due("21: zeros", x.ask(1), -101);
    }

    private static void dueValue(MetricStore x, String formula, int time, float want) {
        due("21: " + formula, Check.ask(x, formula, time == 0 ? 1 : time), 1);
        due("22: " + formula, x.answerBits(), Float.floatToIntBits(want));
    }

    private static void dueWrong(MetricStore x, String formula, int position) {
        due("21: " + formula, Check.ask(x, formula, 1), -100 - position);
        due("21: emptied after " + formula, x.count(3), 0);
    }

    private static void promise21AskWrongTexts() {
        MetricStore x = plain();
        due("21: an evaluation", Check.ask(x, "7+count(0,9)", 9), 1);
        dueWrong(x, "", 0);
        dueWrong(x, "+", 0);
        dueWrong(x, "1+", 2);
        dueWrong(x, "1+*", 2);
        dueWrong(x, "1 +2", 1);
        dueWrong(x, "1)", 1);
        dueWrong(x, "(1", 2);
        dueWrong(x, "()", 1);
        dueWrong(x, "(1))", 3);
        dueWrong(x, "01", 1);
        dueWrong(x, "1234567", 6);
        dueWrong(x, "1(2)", 1);
        dueWrong(x, "-", 1);
        dueWrong(x, "r", 1);
        dueWrong(x, "rat", 3);
        dueWrong(x, "rate", 4);
        dueWrong(x, "rate(", 5);
        dueWrong(x, "rate(8,5)", 5);
        dueWrong(x, "rate(-1,5)", 5);
        dueWrong(x, "rate(12,5)", 6);
        dueWrong(x, "rate(1", 6);
        dueWrong(x, "rate(1,", 7);
        dueWrong(x, "rate(1,)", 7);
        dueWrong(x, "rate(1,-5)", 7);
        dueWrong(x, "rate(1,05)", 8);
        dueWrong(x, "rate(1,1234567)", 13);
        dueWrong(x, "rate(1,5", 8);
        dueWrong(x, "rate(1,5+1)", 8);
        dueWrong(x, "rate(1,5)5", 9);
        dueWrong(x, "Rate(1,5)", 0);
        dueWrong(x, "rats(1,5)", 3);
        dueWrong(x, "mn(1,5)", 1);
        dueWrong(x, "mix(1,5)", 2);
        dueWrong(x, "man(1,5)", 2);
        dueWrong(x, "cout(1,5)", 3);
        dueWrong(x, "ing(1,5)", 2);
        dueWrong(x, "avr(1,5)", 2);
        dueWrong(x, "sun(1,5)", 2);
        dueWrong(x, "lost(1,5)", 1);
        dueWrong(x, "counts(1,5)", 5);
        dueWrong(x, "1/0)", 3);
        dueWrong(x, "1+".repeat(30), 60);
        due("21: the latest evaluation stays", x.count(4), 1);
        due("21: its value too", x.answerBits(), Float.floatToIntBits(8f));
    }

    private static void promise21AskOpen() {
        MetricStore x = plain();
        dueValue(x, "((((((1))))))", 0, 1f);
        dueWrong(x, "(((((((1)))))))", 6);
        dueValue(x, "------1", 0, 1f);
        dueWrong(x, "-------1", 6);
        dueValue(x, "(-(-(-1)))", 0, -1f);
        dueWrong(x, "(-(-(-(1))))", 6);
        dueWrong(x, "-(-(-(-1)))", 6);
        dueValue(x, "-----count(0,9)", 9, -1f);
        dueValue(x, "(((((count(0,9))))))", 9, 1f);
        // No formula can continue with a name whose parenthesis would be the seventh.
        dueWrong(x, "------count(0,9)", 6);
        dueWrong(x, "((((((count(0,9)))))))", 6);
        dueWrong(x, "((((((x", 6);
        dueValue(x, "(((((-1)))))-1-1-1", 0, -4f);
        dueValue(x, "-1--1--1--1--1--1--1--1", 0, 6f);
        dueValue(x, "((((((1))))))+((((((1))))))", 0, 2f);
        dueWrong(x, "((((((1-1+1))))))-(((((((1", 24);
    }

    private static void promise21AskSteps() {
        MetricStore x = plain();
        due("21: divided first", Check.ask(x, "1/0+inc(0,9)", 9), 0);
        due("21: no step", x.count(4), 0);
        due("21: divided last", Check.ask(x, "inc(0,9)+1/0", 9), 0);
        due("21: a step", x.count(4), 1);
        due("21: divided in the middle", Check.ask(x, "inc(0,9)/0*inc(1,9)", 9), 0);
        due("21: a step", x.count(4), 1);
        due("21: the last one without a value", Check.ask(x, "inc(0,9)+min(0,0)+inc(1,9)", 9), 0);
        due("21: two steps", x.count(4), 2);
        due("21: six", Check.ask(x, "inc(0,1)+inc(1,1)-inc(0,2)*inc(1,2)+inc(0,3)-inc(1,3)", 9), 1);
        due("21: six steps", x.count(4), 6);
        due("21: the order", x.step(2, 2), 2);
        due("21: the order", x.step(5, 1), 1);
        due("21: none", Check.ask(x, "5", 9), 1);
        due("21: no steps", x.count(4), 0);
    }

    private static void promise22AnswerBits() {
        MetricStore x = plain();
        due("22: none", x.answerBits(), STATE);
        Check.ask(x, "1/0", 1);
        due("22: no value", x.answerBits(), STATE);
        dueValue(x, "0", 0, 0f);
        dueValue(x, "-0", 0, -0f);
        dueValue(x, "--0", 0, 0f);
        dueValue(x, "0*-5", 0, -0f);
        dueValue(x, "-5*0", 0, -0f);
        dueValue(x, "-5*-0", 0, 0f);
        dueValue(x, "0/-5", 0, -0f);
        dueValue(x, "-0/5", 0, -0f);
        dueValue(x, "-0-0", 0, -0f);
        dueValue(x, "-0+0", 0, 0f);
        dueValue(x, "0-0", 0, 0f);
        dueValue(x, "0+-0", 0, 0f);
        dueValue(x, "-0+-0", 0, -0f);
        dueValue(x, "0--0", 0, 0f);
        dueValue(x, "1-1", 0, 0f);
        dueValue(x, "-(1-1)", 0, -0f);
        dueValue(x, "-count(0,0)", 0, -0f);
        dueValue(x, "999999", 0, 999999f);
        dueValue(x, "16777*1000+217", 0, 16777217f);
        dueValue(x, "1/10", 0, (float) 0.1);
        dueValue(x, "-2/3", 0, (float) (-2.0 / 3));
        dueValue(x, "1/1024", 0, 1f / 1024);
        double great = 999999.0;
        double small = 1.0;
        StringBuilder upper = new StringBuilder("999999");
        StringBuilder lower = new StringBuilder("1");
        for (int i = 0; i < 7; i++) {
            upper.append("*999999");
            lower.append("/999999");
            great = great * 999999.0;
            small = small / 999999.0;
            dueValue(x, upper.toString(), 0, (float) great);
            dueValue(x, lower.toString(), 0, (float) small);
            dueValue(x, "-" + lower, 0, (float) -small);
        }
        dueValue(x, "-" + upper, 0, Float.NEGATIVE_INFINITY);
        dueSubnormals(x);
        dueBigPowers(x);
        Check.ask(x, "1+", 1);
        due("22: stays", x.answerBits(), Float.floatToIntBits((float) (1 / 3.0)));
        Check.ask(x, "avg(0,0)", 1);
        due("22: none again", x.answerBits(), STATE);
    }

    // 2 to the powers -126 and below: 524288 is 2 to the 19th.
    private static void dueSubnormals(MetricStore x) {
        String tiny = "/524288/524288/524288/524288/524288/524288";
        double unit = 1.0 / 524288 / 524288 / 524288 / 524288 / 524288 / 524288;
        int[] tops = {1, 2, 3, 5, 4096, 4095, 12345, 999999};
        int[] belows = {1, 4096, 8192, 65536, 131072, 262144, 524288, 999999};
        for (int top : tops) {
            for (int below : belows) {
                dueValue(x, top + tiny + "/" + below, 0, (float) (top * unit / below));
                dueValue(x, "-" + top + tiny + "/" + below, 0, (float) (-top * unit / below));
            }
        }
    }

    private static void dueBigPowers(MetricStore x) {
        String great = "524288*524288*524288*524288*524288*524288";
        double unit = 524288.0 * 524288.0 * 524288.0 * 524288.0 * 524288.0 * 524288.0;
        int[] times = {1, 8191, 8192, 16383, 16384, 999999};
        for (int by : times) {
            dueValue(x, great + "*" + by, 0, (float) (unit * by));
        }
        dueValue(x, "1/3", 0, (float) (1 / 3.0));
    }

    private static void promise23Step() {
        MetricStore x = plain();
        due("23: none", x.step(0, 0), NONE);
        Check.ask(x, "rate(0,50)*last(1,100)+avg(0,0)+inc(0,1)", 61);
        int[][] wanted = {
            {0, 0, 50, 1, Float.floatToIntBits((float) (9.0 / 16))},
            {7, 1, 100, 1, Float.floatToIntBits(7f)},
            {2, 0, 0, 0, MISSING},
        };
        for (int i = 0; i < 3; i++) {
            for (int what = 0; what < 5; what++) {
                due("23: " + i + ", " + what, x.step(i, what), wanted[i][what]);
            }
        }
        due("23: no step", x.step(3, 0), NONE);
        due("23: no step", x.step(-1, 0), NONE);
        due("23: what 5", x.step(0, 5), NONE);
        due("23: what -1", x.step(0, -1), NONE);
        String[] names = {"rate", "inc", "avg", "min", "max", "sum", "count", "last"};
        for (int f = 0; f < 8; f++) {
            Check.ask(x, names[f] + "(" + f + ",123456)", 61);
            due("23: " + names[f], x.step(0, 0), f);
            due("23: " + names[f], x.step(0, 1), f);
            due("23: " + names[f], x.step(0, 2), 123456);
        }
        x.append(1, 33, -8);
        Check.ask(x, "rate(1,3)+inc(1,0)", 33);
        due("23: negative", x.step(0, 4), Float.floatToIntBits(-5f));
        due("23: zero", x.step(1, 4), 0);
        x.define(1, 1);
        due("23: fixed", x.step(0, 4), Float.floatToIntBits(-5f));
    }

    private static void dueExplained(MetricStore x, String formula, int time, String want) {
        Check.ask(x, formula, time);
        due("24: " + formula, x.explained(0, -1), want.length());
        Check.due("24: " + formula, Check.explained(x, 0), want);
        due("24: behind " + formula, x.explained(0, want.length()), NONE);
    }

    private static void promise24Explained() {
        MetricStore x = plain();
        due("24: none", x.explained(0, -1), NONE);
        dueExplained(x, "rate(0,50)", 61, "rate(0,50)=0");
        dueExplained(x, "inc(0,999999)", 61, "inc(0,999999)=9");
        dueExplained(x, "avg(0,60)", 61, "avg(0,60)=9");
        dueExplained(x, "min(1,60)", 61, "min(1,60)=-5");
        dueExplained(x, "max(0,60)", 61, "max(0,60)=15");
        dueExplained(x, "sum(0,60)", 61, "sum(0,60)=47");
        dueExplained(x, "count(0,60)", 61, "count(0,60)=5");
        dueExplained(x, "last(0,1)", 61, "last(0,1)=9");
        dueExplained(x, "last(0,0)", 61, "last(0,0)=?");
        dueExplained(x, "count(7,0)", 61, "count(7,0)=?");
        dueExplained(x, "1+inc(0,0)", 61, "inc(0,0)=0");
        x.append(1, 31, 0);
        x.append(1, 33, -3);
        dueExplained(x, "rate(1,2)", 33, "rate(1,2)=-1");
        x.append(1, 43, -4);
        dueExplained(x, "rate(1,2)", 43, "rate(1,2)=0");
        x.append(1, 44, LEAST);
        x.append(1, 45, MOST);
        x.append(1, 46, MOST);
        x.append(1, 47, MOST);
        dueExplained(x, "min(1,3)", 46, "min(1,3)=-2147483648");
        dueExplained(x, "sum(1,3)", 47, "sum(1,3)=6442450941");
        dueExplained(x, "inc(1,1)", 45, "inc(1,1)=4294967295");
        dueExplained(x, "max(1,3)", 47, "max(1,3)=2147483647");
        x.append(1, 48, 1000000000);
        dueExplained(x, "last(1,3)", 48, "last(1,3)=1000000000");
        x.append(1, 49, 100);
        dueExplained(x, "last(1,3)", 49, "last(1,3)=100");
        due("24: k -2", x.explained(0, -2), NONE);
        due("24: k least", x.explained(0, LEAST), NONE);
        due("24: no step", x.explained(1, 0), NONE);
        due("24: no step", x.explained(-1, 0), NONE);
        due("24: first", x.explained(0, 0), 'l');
        Check.ask(x, "inc(0,1)+sum(0,1)", 61);
        Check.due("24: second", Check.explained(x, 1), "sum(0,1)=9");
    }

    private static void promise25Store() {
        MetricStore x = plain();
        due("25: ints", x.store(0, 0, 0, 7, 1), 4);
        due("25: floats", x.store(1, 0, 0, 7, 0), 4);
        due("25: wide", x.store(3, 0, 1, 0, 1), 2);
        int[] sums = {10, 19, 9, 9};
        for (int i = 0; i < 4; i++) {
            due("25: int", x.element(0, i), sums[i]);
            due("25: float", x.element(1, i), Float.floatToIntBits((float) sums[i]));
        }
        due("25: wide", x.element(3, 0), 4);
        due("25: wide", x.element(3, 1), 1);
        due("25: row 4", x.store(4, 0, 0, 7, 2), NONE);
        due("25: row -1", x.store(-1, 0, 0, 7, 1), NONE);
        due("25: no series", x.store(0, 8, 0, 7, 1), NONE);
        due("25: no series", x.store(0, -1, 0, 7, 1), NONE);
        due("25: undefined", x.store(0, 2, 0, 7, 2), NONE);
        due("25: resolution 2", x.store(0, 0, 2, 7, 1), NONE);
        due("25: resolution -1", x.store(0, 0, -1, 7, 1), NONE);
        due("25: what 10", x.store(0, 0, 0, 10, 2), NONE);
        due("25: what -1", x.store(0, 0, 0, -1, 1), NONE);
        due("25: exact 2", x.store(0, 0, 0, 7, 2), BAD);
        due("25: exact -1", x.store(0, 0, 0, 7, -1), BAD);
        x.define(3, 1);
        due("25: no rollups", x.store(2, 3, 0, 7, 1), STATE);
        due("25: bad before state", x.store(2, 3, 0, 7, 3), BAD);
        due("25: still missing", x.element(2, 0), NO);
        due("25: rows", x.count(5), 3);
        x.append(3, 1, MOST);
        x.append(3, 2, MOST);
        x.append(3, 3, LEAST);
        x.append(3, 4, 5);
        x.append(3, 11, -16777217);
        due("25: shorter", x.store(0, 3, 0, 7, 1), 2);
        due("25: cast to int", x.element(0, 0), (int) (2L * MOST + LEAST + 5));
        due("25: no longer there", x.element(0, 2), NO);
        x.store(0, 3, 0, 3, 1);
        due("25: cast to int", x.element(0, 0), (int) (5L - MOST));
        x.store(0, 3, 0, 7, 0);
        due("25: cast to float", x.element(0, 0), Float.floatToIntBits((float) (2L * MOST + LEAST + 5)));
        due("25: cast to float", x.element(0, 1), Float.floatToIntBits(-16777217f));
        x.store(0, 3, 0, 1, 0);
        due("25: zero", x.element(0, 0), 0);
        for (int i = 2; i < 60; i++) {
            x.append(3, 10 * i + 1, i);
        }
        due("25: forty", x.store(0, 3, 0, 9, 1), 40);
        due("25: earliest", x.element(0, 0), 20);
        due("25: latest", x.element(0, 39), 59);
        due("25: no more", x.element(0, 40), NO);
    }

    private static void promise26Copy() {
        MetricStore x = plain();
        x.store(0, 0, 0, 7, 1);
        x.store(1, 0, 0, 7, 0);
        x.store(2, 0, 1, 7, 1);
        due("26: missing from", x.copy(3, 0, 1), STATE);
        due("26: missing to", x.copy(0, 3, -1), STATE);
        due("26: row 4", x.copy(4, 3, 1), NONE);
        due("26: row -1", x.copy(3, -1, 1), NONE);
        due("26: negative", x.copy(0, 2, -1), BAD);
        due("26: above one", x.copy(0, 2, 3), BAD);
        due("26: above one", x.copy(2, 0, 3), BAD);
        due("26: above both", x.copy(0, 1, MOST), BAD);
        due("26: bad before full", x.copy(0, 1, 5), BAD);
        due("26: unlike", x.copy(0, 1, 1), FULL);
        due("26: unlike", x.copy(1, 0, 4), FULL);
        due("26: unlike, but nothing", x.copy(0, 1, 0), 0);
        due("26: nothing", x.copy(2, 0, 0), 0);
        due("26: first", x.element(0, 0), 10);
        due("26: two", x.copy(2, 0, 2), 2);
        due("26: copied", x.element(0, 0), 38);
        due("26: copied", x.element(0, 1), 9);
        due("26: the rest stays", x.element(0, 2), 9);
        due("26: length stays", x.element(0, 3), 9);
        due("26: the same again", x.copy(2, 0, 2), 0);
        due("26: itself", x.copy(0, 0, 4), 0);
        due("26: itself, too long", x.copy(0, 0, 5), BAD);
        x.store(0, 0, 0, 7, 1);
        x.store(2, 0, 0, 9, 1);
        due("26: some", x.copy(2, 0, 4), 1);
        x.store(3, 0, 0, 9, 0);
        due("26: floats", x.copy(3, 1, 4), 1);
        due("26: float", x.element(1, 1), Float.floatToIntBits(4f));
        due("26: from stays", x.element(3, 1), Float.floatToIntBits(4f));
    }

    private static void promise27Again() {
        MetricStore x = plain();
        x.store(0, 0, 0, 7, 1);
        x.store(1, 0, 1, 7, 0);
        due("27: new", x.again(0, 2), 4);
        due("27: same", x.element(2, 1), 19);
        due("27: over another", x.again(1, 0), 2);
        due("27: floats", x.element(0, 0), Float.floatToIntBits(38f));
        due("27: shorter", x.element(0, 2), NO);
        due("27: of floats", x.copy(2, 0, 1), FULL);
        due("27: of its own", x.element(2, 0), 10);
        x.store(1, 1, 0, 7, 0);
        due("27: of its own", x.element(0, 1), Float.floatToIntBits(9f));
        x.copy(1, 0, 1);
        due("27: of its own", x.element(0, 0), Float.floatToIntBits(-5f));
        due("27: itself", x.again(2, 2), 4);
        due("27: itself", x.element(2, 3), 9);
        due("27: missing", x.again(3, 0), STATE);
        due("27: missing itself", x.again(3, 3), STATE);
        due("27: row 4", x.again(3, 4), NONE);
        due("27: row 4", x.again(4, 0), NONE);
        due("27: row -1", x.again(-1, 0), NONE);
        due("27: row -1", x.again(0, -1), NONE);
        due("27: still missing", x.count(5), 3);
    }

    private static void promise28Element() {
        MetricStore x = plain();
        due("28: missing", x.element(0, 0), NO);
        x.store(0, 1, 0, 7, 1);
        x.store(1, 1, 0, 7, 0);
        due("28: int", x.element(0, 0), -5);
        due("28: float", x.element(1, 0), Float.floatToIntBits(-5f));
        due("28: its sign", x.element(1, 0) < 0 ? 1 : 0, 1);
        due("28: second", x.element(0, 1), 7);
        due("28: no index", x.element(0, 2), NO);
        due("28: no index", x.element(0, -1), NO);
        due("28: no index", x.element(0, MOST), NO);
        due("28: row 4", x.element(4, 0), NO);
        due("28: row -1", x.element(-1, 0), NO);
    }

    private static void promise29Image() {
        MetricStore x = new MetricStore();
        due("29: nothing", x.image(), 0);
        due("29: a snapshot", x.undo(), 0);
        x = plain();
        due("29: seven", x.image(), 7);
        x.append(0, 62, 9);
        due("29: eight", x.image(), 8);
        x.define(0, 0);
        due("29: the later one", x.undo(), 8);
        due("29: latest", x.series(0, 4), 62);
    }

    private static void promise30Undo() {
        MetricStore x = plain();
        due("30: none", x.undo(), STATE);
        Check.histogram(x, 2, "10,20");
        x.observe(2, 15, 3);
        x.scrape(2, 30);
        x.parameter(0, 40);
        x.parameter(1, 5);
        x.image();
        Check.feed(x, "count(0,99)");
        x.store(0, 0, 0, 7, 1);
        x.observe(2, 15, 3);
        x.scrape(2, 40);
        x.define(0, 1);
        x.define(4, 1);
        x.append(1, 31, 1);
        x.parameter(0, 1);
        x.parameter(1, 1);
        due("30: restored", x.undo(), 8);
        due("30: kind", x.series(0, 0), 0);
        due("30: undefined again", x.series(4, 0), MISSING);
        due("30: samples", x.series(0, 1), 5);
        due("30: sample", x.sample(0, 2, 2), 2);
        due("30: sample", x.sample(0, 2, 3), 4);
        due("30: cover", x.sample(0, 2, 4), 8);
        due("30: rollups", x.rolled(0, 0, 0, 70, 3), 9);
        due("30: rollups", x.series(0, 5), 4);
        due("30: latest", x.series(1, 4), 30);
        due("30: present", x.series(2, 21), 3);
        due("30: bound", x.series(2, 11), 20);
        due("30: histogram", x.series(2, 1), 1);
        due("30: gap", x.count(6), 40);
        due("30: retention", x.count(7), 5);
        due("30: the tape stays", x.count(3), 11);
        due("30: the row stays", x.element(0, 1), 19);
        due("30: formula", x.ask(61), 1);
        x.scrape(2, 60);
        x.undo();
        due("30: the evaluation stays", x.count(4), 1);
        due("30: the snapshot stays", x.series(2, 1), 1);
        x.scrape(2, 50);
        due("30: a later pair", x.sample(2, 1, 4), 20);
        x.undo();
        due("30: of its own", x.sample(2, 1, 0), NO);
        x.parameter(1, 1);
        for (int i = 0; i < 12; i++) {
            x.append(1, 100 + i, i);
        }
        due("30: dropped", x.count(2), 8);
        x.undo();
        due("30: none dropped", x.count(2), 0);
        due("30: earliest", x.sample(1, 0, 0), 10);
        due("30: rollup", x.rollup(1, 0, 0, 7), -5);
        dueUndoneWhole();
    }

    /** All that a series has, with other samples added over those of the snapshot. */
    private static void dueUndoneWhole() {
        MetricStore x = histograms();
        x.parameter(1, 1);
        for (int i = 1; i <= 20; i++) {
            x.observe(0, 5 * i, i);
            x.observe(1, 15 * i, 20 - i);
            x.scrape(0, 20 + 7 * i);
            x.scrape(1, 20 + 9 * i);
        }
        x.define(2, 0);
        for (int i = 1; i <= 45; i++) {
            x.append(2, 20 * i + i / 9 * 40, i % 3);
        }
        long[] before = whole(x);
        x.image();
        for (int round = 0; round < 2; round++) {
            Check.histogram(x, 0, round == 0 ? "1,2,3,4" : "11,21,51");
            x.define(1, 1);
            x.define(2, round);
            x.parameter(1, 3);
            for (int i = 1; i <= 50; i++) {
                x.observe(0, i % 4, 7);
                x.scrape(0, i * 8);
                x.append(1, i * 11, i % 5 - 2);
                x.append(2, 2000 + i, i);
            }
            x.undo();
            long[] after = whole(x);
            for (int i = 0; i < before.length; i++) {
                due("30: " + i + " of the whole", after[i], before[i]);
            }
        }
    }

    private static long[] whole(MetricStore x) {
        long[] answers = new long[3 * (30 + 20 * 17 + 2 * 41 * 11 + 5)];
        int n = 0;
        for (int s = 0; s < 3; s++) {
            for (int what = 0; what < 30; what++) {
                answers[n++] = x.series(s, what);
            }
            for (int i = 0; i < 20; i++) {
                for (int what = 0; what < 17; what++) {
                    answers[n++] = x.sample(s, i, what);
                }
            }
            for (int i = 0; i < 41; i++) {
                for (int what = 0; what < 11; what++) {
                    answers[n++] = x.rollup(s, 0, i, what);
                    answers[n++] = x.rollup(s, 1, i, what);
                }
            }
            for (int k = 0; k < 5; k++) {
                answers[n++] = x.bucket(s, 0, 9999, k);
            }
        }
        return answers;
    }

    private static void promise31Count() {
        MetricStore x = plain();
        Check.histogram(x, 7, "10");
        due("31: defined", x.count(0), 3);
        due("31: kept", x.count(1), 7);
        due("31: dropped", x.count(2), 0);
        Check.feed(x, "12");
        due("31: bytes", x.count(3), 2);
        due("31: steps", x.count(4), 0);
        due("31: rows", x.count(5), 0);
        due("31: gap", x.count(6), 30);
        due("31: retention", x.count(7), 8);
        due("31: resets", x.count(8), 1);
        due("31: gaps", x.count(9), 1);
        due("31: 10", x.count(10), NONE);
        due("31: -1", x.count(-1), NONE);
        x.ask(1);
        x.scrape(7, 1);
        x.scrape(7, 32);
        due("31: gaps of all", x.count(9), 2);
        Check.ask(x, "inc(0,1)+inc(0,1)", 1);
        due("31: steps", x.count(4), 2);
        x.store(2, 0, 0, 0, 1);
        x.store(2, 0, 0, 0, 0);
        due("31: rows", x.count(5), 1);
        x.parameter(1, 1);
        for (int i = 1; i <= 9; i++) {
            x.append(1, 30 + i, i);
            x.append(0, 61 + i, 10 - i);
        }
        due("31: dropped", x.count(2), 16);
        due("31: kept", x.count(1), 3 + 6 + 2);
        due("31: resets of the kept samples", x.count(8), 6);
        due("31: gaps of the kept samples", x.count(9), 1);
        x.define(1, 1);
        due("31: as they are defined now", x.count(2), 8);
        x.define(6, 1);
        due("31: defined", x.count(0), 4);
        x.append(6, 1, 1);
        x.store(0, 6, 0, 0, 1);
        due("31: a row of one", x.count(5), 2);
        for (int i = 0; i < 24; i++) {
            x.append(6, 2 + i, i);
        }
        due("31: dropped block by block", x.count(2), 8 + 24);
    }
}
