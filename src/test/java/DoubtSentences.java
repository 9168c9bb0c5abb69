import java.util.ArrayList;
import java.util.List;

/** The description's last parts: what holds in doubt, and errors. */
final class DoubtSentences extends SentenceCase {
    /** A call that is refused. */
    private interface Call {
        long on(MetricStore x);
    }

    private DoubtSentences() {
    }

    static void test() {
        emptyWindow();
        anyWindowEnds();
        existsOnOneSide();
        dividedByZero();
        widthOfZero();
        rowToItself();
        signOfBits();
        unchangedByErrors();
        firstErrorListed();
        meaningOfErrors();
        longErrors();
        valueOfNo();
        minusFive();
        questions();
        bitMasks();
    }

    private static void emptyWindow() {
        of("In doubt", "A window from a to a is empty: its measures 0 to 4 and 7 are 0, the others do not exist");
        MetricStore x = store(COUNTER, 10, 5, 60, 9);
        for (int a : new int[] {LEAST, -60, 0, 10, 60, 999999, MOST}) {
            dueMeasures(what -> x.window(0, a, a, what), NOTHING);
        }
        for (int a : new int[] {-2147483640, -60, 0, 60, 2147483640}) {
            dueMeasures(what -> x.rolled(0, 0, a, a, what), NOTHING);
            dueMeasures(what -> x.rolled(0, 1, a, a, what), NOTHING);
            due(x.differs(0, 0, a, a), 0);
        }
        due(x.rateBits(0, 60, 60), NONE);
        MetricStore y = observed("5", 1);
        due(y.bucket(0, 2, 2, 0), 0);
        due(y.merged(1, 2, 2, 1), 0);
        due(y.merged(1, 2, 2, 0), 1);
        due(y.quantile(1, 2, 2, 50, 0), NO);
    }

    private static void anyWindowEnds() {
        of("In doubt", "a and b can be any numbers");
        MetricStore x = store(COUNTER, 1, 5, 2, 9, 999999, 4);
        dueMeasures(what -> x.window(0, LEAST, MOST, what), 3, 0, 1, 4, 1, 4, 9, 18, 5, 4);
        dueMeasures(what -> x.window(0, LEAST, LEAST + 1, what), NOTHING);
        dueMeasures(what -> x.window(0, MOST - 1, MOST, what), NOTHING);
        dueMeasures(what -> x.window(0, 1000000, MOST, what), NOTHING);
        due(x.window(0, -5, 1, 0), 1);
        due(x.window(0, 999998, MOST, 0), 1);
        due(x.window(0, MOST, LEAST, 0), NO);
        due(x.rolled(0, 0, -2147483640, 2147483640, 0), 3);
        due(x.rolled(0, 1, -2147483640, 2147483640, 0), 3);
        due(x.rolled(0, 0, -2147483640, -10, 0), 0);
        due(x.rolled(0, 0, 1000000, 2147483640, 0), 0);
        due(x.rolled(0, 1, 1000020, 2147483640, 0), 0);
        due(x.rolled(0, 0, -10, 10, 0), 2);
        due(x.rolled(0, 0, LEAST, MOST, 0), NO);
        due(x.rolled(0, 0, -5, 10, 0), NO);
        due(x.differs(0, 0, -2147483640, 2147483640), 0);
        due(x.rateBits(0, LEAST, MOST), bits(4));
        MetricStore y = observed("5", 1);
        due(y.bucket(0, LEAST, MOST, 0), 1);
        due(y.bucket(0, MOST, LEAST, 0), NO);
        due(y.merged(1, LEAST, MOST, 1), 1);
        due(y.quantile(1, LEAST, MOST, 50, 0), 5);
    }

    private static void existsOnOneSide() {
        of("In doubt", "A measure that exists on one side alone differs, one that exists on neither does not");
        MetricStore x = store(GAUGE);
        x.parameter(1, 1);
        append(x, 0, 10, 0);
        for (int time = 101; time <= 108; time++) {
            append(x, 0, time, 0);
        }
        due(x.window(0, 0, 10, 0), 0);
        due(x.differs(0, 0, 0, 10), 0x361);
        due(x.differs(0, 0, 10, 20), 0);
        due(x.differs(0, 1, 120, 180), 0);
        MetricStore y = store(GAUGE);
        for (int k = 0; k <= 40; k++) {
            append(y, 0, 10 * k + 10, 0);
        }
        due(y.rolled(0, 0, 0, 10, 0), 0);
        due(y.differs(0, 0, 0, 10), 0x361);
        due(y.differs(0, 0, 10, 20), 0);
    }

    private static void dividedByZero() {
        of("In doubt", "A division by 0 or -0 has no value");
        MetricStore x = store(GAUGE, 5, 0);
        dueNoValue(x, "1/0", 9);
        dueNoValue(x, "1/-0", 9);
        dueNoValue(x, "0/0", 9);
        dueNoValue(x, "0/-0", 9);
        dueNoValue(x, "-1/--0", 9);
        dueNoValue(x, "1/(0*-5)", 9);
        dueNoValue(x, "1/-sum(0,9)", 9);
        dueNoValue(x, "1/sum(0,9)", 9);
        dueNoValue(x, "1/(3-3)", 9);
        dueValue(x, "0/5", 9, 0.0);
        dueValue(x, "-0/5", 9, -0.0);
        dueValue(x, "0/-5", 9, -0.0);
    }

    private static void widthOfZero() {
        of("In doubt", "A width of 0 makes an empty window");
        MetricStore x = store(COUNTER, 5, 7, 6, 9);
        for (String name : new String[] {"inc", "sum", "count"}) {
            dueValue(x, name + "(0,0)", 6, 0);
        }
        for (String name : new String[] {"rate", "avg", "min", "max", "last"}) {
            dueNoValue(x, name + "(0,0)", 6);
        }
        dueValue(x, "count(0,1)", 6, 1);
        due(x.step(0, 2), 1);
    }

    private static void rowToItself() {
        of("In doubt", "A row can be copied to itself, with 0, and made again from itself, with its length");
        MetricStore x = store(COUNTER, 5, 7, 16, 9, 21, 3);
        x.store(0, 0, 0, 7, 1);
        x.store(1, 0, 0, 7, 0);
        for (int row = 0; row < 2; row++) {
            for (int n = 0; n <= 3; n++) {
                due(x.copy(row, row, n), 0);
            }
            due(x.copy(row, row, 4), BAD);
            due(x.again(row, row), 3);
        }
        dueMeasures(i -> x.element(0, i), 7, 9, 3, NO);
        dueMeasures(i -> x.element(1, i), bits(7), bits(9), bits(3), NO);
        due(x.count(5), 2);
    }

    private static void signOfBits() {
        of("In doubt", "The bits of a float have the sign of an int");
        MetricStore x = store(GAUGE, 5, -7, 6, -8);
        x.store(0, 0, 0, 9, 0);
        due(x.element(0, 0), Float.floatToIntBits(-8f));
        due(x.element(0, 0) < 0 ? 1 : 0, 1);
        due(x.rateBits(0, 0, 9), Float.floatToIntBits(-1f));
        dueValue(x, "-1", 9, -1);
        due(x.answerBits() < 0 ? 1 : 0, 1);
        dueValue(x, "-0", 9, -0.0);
        due(x.answerBits(), LEAST);
        dueValue(x, "min(0,9)", 9, -8);
        due(x.step(0, 4), Float.floatToIntBits(-8f));
    }

    /** A store in which all that can be held is held; rows 0 and 2 are of ints, 1 of floats, 3 is missing. */
    private static MetricStore rich() {
        MetricStore x = observed("5,10", 1, 7);
        x.define(1, COUNTER);
        x.define(2, GAUGE);
        x.define(3, COUNTER);
        append(x, 1, 10, 5, 20, 2, 999999, 9);
        append(x, 2, 10, -5, 20, 2, 30, 8);
        x.parameter(0, 50);
        x.image();
        observe(x, 0, 3, 99);
        x.parameter(0, 40);
        x.parameter(1, 5);
        append(x, 2, 75, 3);
        x.store(0, 2, 0, 7, 1);
        x.store(1, 2, 0, 7, 0);
        x.store(2, 1, 0, 7, 1);
        Check.ask(x, "sum(1,99)+min(7,9)", 30);
        Check.feed(x, "2");
        return x;
    }

    /** All that can be asked of a store. */
    private static List<Long> picture(MetricStore x) {
        List<Long> answers = new ArrayList<>();
        for (int what = 0; what < 10; what++) {
            answers.add((long) x.count(what));
        }
        for (int s = 0; s < 8; s++) {
            for (int what = 0; what < 27; what++) {
                answers.add((long) x.series(s, what));
            }
            for (int i = 0; i < 6; i++) {
                for (int what = 0; what < 17; what++) {
                    answers.add(x.sample(s, i, what));
                    answers.add(x.rollup(s, 0, i, what));
                    answers.add(x.rollup(s, 1, i, what));
                }
            }
            for (int what = 0; what < 10; what++) {
                answers.add(x.window(s, 0, 999999, what));
                answers.add(x.rolled(s, 0, 0, 1000000, what));
                answers.add(x.bucket(s, 0, 999999, what));
            }
        }
        answers.add((long) x.answerBits());
        for (int i = 0; i < 6; i++) {
            for (int k = -1; k < 16; k++) {
                answers.add((long) x.step(i, k));
                answers.add((long) x.explained(i, k));
                answers.add(x.element(i, k));
            }
        }
        return answers;
    }

    /** What answers do not show is shown by what a store does next: the tape, the snapshot, the parameters. */
    private static void dueAlike(MetricStore x, MetricStore y) {
        due(picture(x).equals(picture(y)) ? 1 : 0, 1);
        append(x, 2, 115, 9);
        append(y, 2, 115, 9);
        due(picture(x).equals(picture(y)) ? 1 : 0, 1);
        due(x.feed('5'), y.feed('5'));
        due(x.histogram(4), y.histogram(4));
        due(picture(x).equals(picture(y)) ? 1 : 0, 1);
        due(x.undo(), y.undo());
        due(picture(x).equals(picture(y)) ? 1 : 0, 1);
    }

    private static void dueRefused(long code, Call call) {
        MetricStore x = rich();
        due(call.on(x), code);
        dueAlike(x, rich());
    }

    /** A call that reads this text and is refused: the tape is empty then, and that is all. */
    private static void dueWrongText(long code, String text, Call call) {
        MetricStore x = rich();
        Check.feed(x, text);
        due(call.on(x), code);
        due(x.count(3), 0);
        Check.feed(x, "2");
        dueAlike(x, rich());
    }

    private static void unchangedByErrors() {
        of("Errors", "A call that returns an error code leaves the state unchanged, except that the tape is emptied if its "
            + "text is wrong");
        refusedChanges();
        refusedTexts();
        refusedWhenFull();
        dueRefused(NONE, x -> x.store(4, 1, 0, 0, 1));
        dueRefused(NONE, x -> x.store(0, 7, 0, 0, 1));
        dueRefused(NONE, x -> x.store(0, 1, 2, 0, 1));
        dueRefused(NONE, x -> x.store(0, 1, 0, 10, 1));
        dueRefused(BAD, x -> x.store(0, 1, 0, 0, 2));
        dueRefused(STATE, x -> x.store(0, 3, 0, 0, 1));
        dueRefused(NONE, x -> x.copy(0, 4, 1));
        dueRefused(STATE, x -> x.copy(0, 3, 1));
        dueRefused(STATE, x -> x.copy(3, 0, 1));
        dueRefused(BAD, x -> x.copy(0, 2, 4));
        dueRefused(BAD, x -> x.copy(0, 2, -1));
        dueRefused(FULL, x -> x.copy(1, 0, 1));
        dueRefused(NONE, x -> x.again(0, 4));
        dueRefused(STATE, x -> x.again(3, 0));
        MetricStore x = store(COUNTER, 5, 7);
        due(x.undo(), STATE);
        due(x.window(0, 0, 9, 7), 7);
        due(x.undo(), STATE);
    }

    private static void refusedChanges() {
        dueRefused(NONE, x -> x.define(8, 0));
        dueRefused(BAD, x -> x.define(1, 2));
        dueRefused(BAD, x -> x.feed(128));
        dueRefused(NONE, x -> x.histogram(8));
        dueRefused(NONE, x -> x.append(8, 31, 1));
        dueRefused(STATE, x -> x.append(0, 31, 1));
        dueRefused(STATE, x -> x.append(7, 31, 1));
        dueRefused(BAD, x -> x.append(3, 0, 1));
        dueRefused(BAD, x -> x.append(3, 1000000, 1));
        dueRefused(BAD, x -> x.append(3, 31, -1));
        dueRefused(BAD, x -> x.append(2, 75, 1));
        dueRefused(BAD, x -> x.append(2, 74, 1));
        dueRefused(BAD, x -> x.append(1, 1000000, 1));
        dueRefused(NONE, x -> x.observe(8, 1, 1));
        dueRefused(STATE, x -> x.observe(1, 1, 1));
        dueRefused(BAD, x -> x.observe(0, -1, 1));
        dueRefused(BAD, x -> x.observe(0, 1, 0));
        dueRefused(BAD, x -> x.observe(0, 1, 100));
        dueRefused(NONE, x -> x.scrape(8, 31));
        dueRefused(STATE, x -> x.scrape(1, 31));
        dueRefused(BAD, x -> x.scrape(0, 2));
        dueRefused(BAD, x -> x.scrape(0, 1000000));
        dueRefused(NONE, x -> x.restart(8));
        dueRefused(STATE, x -> x.restart(1));
        dueRefused(NONE, x -> x.parameter(2, 1));
        dueRefused(BAD, x -> x.parameter(0, 0));
        dueRefused(BAD, x -> x.parameter(0, 10000));
        dueRefused(BAD, x -> x.parameter(1, 0));
        dueRefused(BAD, x -> x.parameter(1, 9));
        dueRefused(BAD, x -> x.ask(0));
        dueRefused(BAD, x -> x.ask(1000000));
    }

    private static void refusedTexts() {
        dueWrongText(-102, "5x", x -> x.histogram(0));
        dueWrongText(-103, "5,", x -> x.histogram(1));
        dueWrongText(-113, "5,4,5,6,7,8,9", x -> x.histogram(5));
        dueWrongText(BAD, ",1", x -> x.histogram(0));
        dueWrongText(BAD, "5,99999", x -> x.histogram(2));
        dueWrongText(BAD, "0000", x -> x.histogram(7));
        dueWrongText(-102, "+*", x -> x.ask(30));
        dueWrongText(-102, "+", x -> x.ask(30));
        dueWrongText(-101, "(sum(1,9))", x -> x.ask(30));
        MetricStore x = rich();
        Check.ask(x, "1", 1);
        MetricStore y = rich();
        Check.ask(y, "1", 1);
        due(x.ask(1), -100);
        due(x.histogram(0), -100);
        dueAlike(x, y);
    }

    /** 512 calls reach no more than 50688 observations: what lies beyond is free, but tells the limit. */
    private static void refusedWhenFull() {
        MetricStore x = rich();
        MetricStore y = rich();
        for (int i = 1; i < 60; i++) {
            x.feed('7');
            y.feed('7');
        }
        due(x.feed('7'), FULL);
        due(picture(x).equals(picture(y)) ? 1 : 0, 1);
        due(x.ask(5), -106);
        due(y.ask(5), -106);
        for (int i = 0; i < 10100; i++) {
            x.observe(0, 1, 99);
            y.observe(0, 1, 99);
        }
        due(x.observe(0, 7, 99), FULL);
        dueAlike(x, y);
    }

    private static void firstErrorListed() {
        of("Errors", "If several errors apply, the one that is listed first in the @return line is returned");
        MetricStore x = rich();
        due(x.define(8, 2), NONE);
        due(x.append(8, 0, -1), NONE);
        due(x.append(0, 0, -1), STATE);
        due(x.append(7, 0, -1), STATE);
        due(x.observe(8, -1, 0), NONE);
        due(x.observe(1, -1, 0), STATE);
        due(x.scrape(8, 0), NONE);
        due(x.scrape(1, 0), STATE);
        due(x.parameter(2, 0), NONE);
        due(x.store(4, 1, 0, 0, 2), NONE);
        due(x.store(0, 7, 0, 0, 2), NONE);
        due(x.store(0, 3, 2, 0, 2), NONE);
        due(x.store(0, 3, 0, 10, 1), NONE);
        due(x.store(0, 3, 0, 0, 2), BAD);
        due(x.copy(4, 3, -1), NONE);
        due(x.copy(3, 4, -1), NONE);
        due(x.copy(3, 0, -1), STATE);
        due(x.copy(0, 3, 99), STATE);
        due(x.copy(0, 1, -1), BAD);
        due(x.copy(0, 1, 5), BAD);
        due(x.again(3, 4), NONE);
        Check.feed(x, "x");
        due(x.histogram(8), NONE);
        due(x.count(3), 2);
        due(x.ask(0), BAD);
        due(x.count(3), 2);
        due(x.histogram(4), -101);
        due(Check.histogram(x, 4, "5,4,"), -104);
        due(Check.histogram(x, 4, "0,99999x"), -107);
        due(Check.histogram(x, 4, "9,8,7,6,5,4,3"), -112);
        for (int i = 0; i < 60; i++) {
            x.feed('1');
        }
        due(x.feed(128), BAD);
        due(x.feed(-1), BAD);
        due(x.feed(127), FULL);
        for (int i = 0; i < 10101; i++) {
            x.observe(0, 1, 99);
        }
        due(x.observe(0, 1, 99), FULL);
        due(x.observe(0, 1, 100), BAD);
        due(x.observe(0, -1, 99), BAD);
    }

    private static void meaningOfErrors() {
        of("Errors", "NONE means that a number or selector is invalid, BAD that a value is out of range, STATE that the state "
            + "forbids the call, and FULL that a limit is reached");
        due(MetricStore.NONE, -1);
        due(MetricStore.BAD, -2);
        due(MetricStore.STATE, -3);
        due(MetricStore.FULL, -4);
        MetricStore x = new MetricStore();
        due(x.define(8, 0), -1);
        due(x.count(10), -1);
        due(x.define(0, 2), -2);
        due(x.restart(0), -3);
        for (int i = 0; i < 60; i++) {
            x.feed('1');
        }
        due(x.feed('1'), -4);
    }

    private static void longErrors() {
        of("Errors", "Methods that return a long return NO instead");
        MetricStore x = rich();
        due(x.sample(8, 0, 0), NO);
        due(x.window(8, 0, 9, 0), NO);
        due(x.rolled(8, 0, 0, 10, 0), NO);
        due(x.rollup(8, 0, 0, 0), NO);
        due(x.fused(8, 0, 0), NO);
        due(x.bucket(8, 0, 9, 0), NO);
        due(x.merged(0, 0, 9, 0), NO);
        due(x.quantile(0, 0, 9, 50, 0), NO);
        due(x.element(4, 0), NO);
        due(x.element(3, 0), NO);
        due(x.window(7, 9, 0, 10), NO);
    }

    private static void valueOfNo() {
        of("Errors", "NO = Long.MIN_VALUE: The error value of methods that return a long");
        due(MetricStore.NO, -9223372036854775807L - 1);
        due(new MetricStore().sample(0, 0, 0), MetricStore.NO);
    }

    private static void minusFive() {
        of("Errors", "The result -5 is returned only if no error applies");
        MetricStore x = rich();
        due(x.define(7, 2), BAD);
        due(x.define(7, -1), BAD);
        due(x.define(8, 0), NONE);
        due(x.series(7, 0), MISSING);
        due(x.series(8, 0), NONE);
        due(x.series(7, 4), MISSING);
        due(x.series(-1, 4), NONE);
        due(x.series(3, 4), MISSING);
        due(x.step(1, 4), MISSING);
        due(x.step(2, 4), NONE);
        due(x.step(1, 5), NONE);
        due(x.define(7, 0), MISSING);
    }

    private static void questions() {
        of("Errors", "Questions do not change the state");
        MetricStore x = rich();
        MetricStore y = rich();
        for (int s = -1; s < 9; s++) {
            for (int what = -1; what < 28; what++) {
                x.series(s, what);
                x.sample(s, what, 1);
                x.window(s, what, 50, what);
                x.rolled(s, 0, 10 * what, 60, 7);
                x.differs(s, 0, 10 * what, 60);
                x.rollup(s, 0, what, 7);
                x.fused(s, what, 7);
                x.rateBits(s, what, 99);
                x.bucket(s, 0, 99, what);
                x.merged(1, 0, 99, what);
                x.quantile(1, 0, 99, 50, what);
                x.answerBits();
                x.step(s, what);
                x.explained(s, what);
                x.element(s, what);
                x.count(what);
            }
        }
        dueAlike(x, y);
        due(x.series(0, 1), 2);
    }

    private static void bitMasks() {
        of("Errors", "Sets of series are bit masks");
        MetricStore x = new MetricStore();
        for (int s = 0; s < 8; s++) {
            Check.histogram(x, s, "5");
            x.scrape(s, 1);
            observe(x, s, 1 + s, 1);
            x.scrape(s, 2);
        }
        for (int s = 0; s < 8; s++) {
            due(x.merged(1 << s, 0, 9, 1), 1 + s);
        }
        due(x.merged(255, 0, 9, 1), 36);
        due(x.merged(129, 0, 9, 1), 9);
        due(x.quantile(255, 0, 9, 100, 0), 5);
        dueEach(NO, set -> x.merged(set, 0, 9, 1), 0, 256, 257, 511, -1, LEAST, LEAST + 1, MOST);
        dueEach(NO, set -> x.quantile(set, 0, 9, 50, 0), 0, 256, 257, 511, -1, LEAST, LEAST + 1, MOST);
        MetricStore y = store(GAUGE, 5, 7, 16, 9);
        y.parameter(1, 1);
        due(y.differs(0, 0, 0, 20), 0);
        for (int k = 0; k < 7; k++) {
            append(y, 0, 20 + k, 9);
        }
        due(y.window(0, 0, 20, 0), 0);
        due(y.differs(0, 0, 0, 10), 1 | 1 << 5 | 1 << 6 | 1 << 7 | 1 << 8 | 1 << 9);
    }
}
