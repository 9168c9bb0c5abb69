/** The promises 21 to 31: evaluations, rows, the snapshot, counts. */
final class RowSentences extends SentenceCase {
    private RowSentences() {
    }

    static void test() {
        ask();
        askSteps();
        askErrors();
        answerBits();
        step();
        explained();
        explainedErrors();
        store();
        storeErrors();
        copy();
        copyErrors();
        again();
        element();
        image();
        undo();
        count();
        countSamples();
    }

    private static void ask() {
        of("21", "Evaluates the formula on the tape");
        MetricStore x = store(COUNTER, 5, 7);
        due(x.ask(9), -100);
        dueValue(x, "0", 9, 0);
        dueValue(x, "sum(0,9)*2", 9, 14);
        of("21", "The tape is emptied, also if the text is wrong");
        for (String text : new String[] {"1", "1/0", "sum(7,1)", "x", "1+", "-------1", "1".repeat(60)}) {
            Check.feed(x, text);
            x.ask(9);
            due(x.count(3), 0);
        }
        due(x.feed('1'), 1);
        of("21", "time: the time t, 1 to 999999");
        due(x.ask(0), BAD);
        due(x.ask(1000000), BAD);
        due(x.ask(1), 1);
        dueValue(x, "sum(0,999995)", 999999, 7);
        dueValue(x, "sum(0,999994)", 999999, 0);
        dueValue(x, "sum(0,9)", 4, 0);
        dueValue(x, "sum(0,1)", 5, 7);
        of("21", "Returns 1 if it has a value, 0 if not");
        due(Check.ask(x, "0", 9), 1);
        due(Check.ask(x, "-1", 9), 1);
        due(Check.ask(x, "0/0", 9), 0);
        due(Check.ask(x, "min(0,0)", 9), 0);
        due(Check.ask(x, "count(0,0)", 9), 1);
        due(Check.ask(x, "count(1,9)", 9), 0);
    }

    private static void askSteps() {
        of("21", "The steps of the latest evaluation are kept, one for each function that was evaluated, in the order of the "
            + "evaluation, the last one also if it has no value");
        MetricStore x = store(COUNTER, 5, 7);
        due(x.count(4), 0);
        Check.ask(x, "inc(0,1)+sum(0,2)*min(0,3)-max(0,9)", 5);
        due(x.count(4), 4);
        dueMeasures(i -> x.step(i, 0), 1, 5, 3, 4, NONE);
        dueMeasures(i -> x.step(i, 2), 1, 2, 3, 9, NONE);
        Check.ask(x, "sum(0,1)*(sum(0,2)-(sum(0,3)+sum(0,4)))*sum(0,5)", 5);
        dueMeasures(i -> x.step(i, 2), 1, 2, 3, 4, 5, NONE);
        Check.ask(x, "inc(0,1)+inc(0,2)+inc(0,3)+inc(0,4)+inc(0,5)+inc(0,6)", 5);
        due(x.count(4), 6);
        due(x.step(5, 2), 6);
        due(x.step(6, 2), NONE);
        Check.ask(x, "inc(0,1)+min(0,0)+inc(0,2)", 5);
        due(x.count(4), 2);
        dueMeasures(i -> x.step(i, 3), 1, 0, NONE);
        Check.ask(x, "avg(7,1)", 5);
        due(x.count(4), 1);
        due(x.step(0, 3), 0);
        Check.ask(x, "5", 5);
        due(x.count(4), 0);
        due(x.step(0, 0), NONE);
        Check.ask(x, "sum(0,1)/0", 5);
        due(x.count(4), 1);
        due(x.step(0, 3), 1);
    }

    private static void askErrors() {
        of("21", "BAD if time is out of range, in which case the tape is not emptied");
        MetricStore x = store(COUNTER, 5, 7);
        Check.ask(x, "3+sum(0,9)", 9);
        Check.feed(x, "4");
        dueEach(BAD, x::ask, 0, -1, 1000000, LEAST, MOST);
        due(x.count(3), 1);
        due(x.count(4), 1);
        due(x.answerBits(), bits(10));
        dueValue(x, "2", 9, 42);
        Check.feed(x, "x");
        due(x.ask(0), BAD);
        due(x.count(3), 1);
        due(x.ask(9), -100);
        of("21", "-100 minus the error position if the text is wrong, and then the latest evaluation stays");
        Check.ask(x, "3+sum(0,9)", 9);
        String[] texts = {"", "x", "1+", "sum(0,9)+sum(0,8)x", "1".repeat(7), "1/0x"};
        int[] positions = {0, 0, 2, 17, 6, 3};
        for (int i = 0; i < texts.length; i++) {
            due(Check.ask(x, texts[i], 9), -100 - positions[i]);
            due(x.count(4), 1);
            due(x.step(0, 2), 9);
            due(x.answerBits(), bits(10));
        }
        Check.ask(x, "sum(0,8)/0", 9);
        due(Check.ask(x, "5+5)", 9), -103);
        due(x.answerBits(), STATE);
        due(x.step(0, 2), 8);
        due(Check.ask(x, "1+".repeat(30), 9), -160);
    }

    private static void answerBits() {
        of("22", "Returns the bits of the value, cast to float, as by Float.floatToIntBits");
        MetricStore x = store(GAUGE, 5, 7);
        dueValue(x, "0", 9, 0.0);
        dueValue(x, "-0", 9, -0.0);
        due(x.answerBits(), LEAST);
        dueValue(x, "0*-1", 9, -0.0);
        dueValue(x, "1-1", 9, 0.0);
        dueValue(x, "-0+0", 9, 0.0);
        dueValue(x, "0+-0", 9, 0.0);
        dueValue(x, "-0+-0", 9, -0.0);
        dueValue(x, "-0-0", 9, -0.0);
        dueValue(x, "-0--0", 9, 0.0);
        dueValue(x, "0--0", 9, 0.0);
        dueValue(x, "-5--5", 9, 0.0);
        dueValue(x, "-1", 9, -1);
        dueValue(x, "1/3", 9, 1 / 3.0);
        dueValue(x, "-2/3", 9, -2 / 3.0);
        dueValue(x, "16777*1000+217", 9, 16777217.0);
        dueValue(x, "16777*1000+219", 9, 16777219.0);
        String million = "999999*999999*999999*999999*999999*999999";
        double great = 999999.0 * 999999.0 * 999999.0 * 999999.0 * 999999.0 * 999999.0;
        dueValue(x, million, 9, great);
        dueValue(x, million + "*340", 9, great * 340);
        dueValue(x, million + "*341", 9, great * 341);
        due(x.answerBits(), Float.floatToIntBits(Float.POSITIVE_INFINITY));
        dueValue(x, "-" + million + "*341", 9, great * -341);
        String small = "1/999999/999999/999999/999999/999999/999999";
        double less = 1.0 / 999999.0 / 999999.0 / 999999.0 / 999999.0 / 999999.0 / 999999.0;
        dueValue(x, small, 9, less);
        dueValue(x, small + "/80", 9, less / 80);
        dueValue(x, small + "/90", 9, less / 90);
        dueValue(x, small + "/999999", 9, less / 999999.0);
        dueValue(x, "-" + small + "/999999", 9, less / -999999.0);
        dueValue(x, small + "/999999/9", 9, less / 999999.0 / 9);
        dueValue(x, "-" + small + "/999999/9999", 9, -0.0);
        of("22", "STATE if there was no evaluation, or it had no value");
        MetricStore y = store(COUNTER, 5, 7);
        due(y.answerBits(), STATE);
        due(Check.ask(y, "x", 9), -100);
        due(y.answerBits(), STATE);
        Check.feed(y, "1");
        due(y.ask(0), BAD);
        due(y.answerBits(), STATE);
        due(y.ask(1), 1);
        due(y.answerBits(), bits(1));
        dueNoValue(y, "1/0", 9);
        dueNoValue(y, "sum(0,9)+sum(1,9)", 9);
        dueNoValue(y, "min(0,0)", 9);
        dueValue(y, "min(0,9)", 9, 7);
    }

    private static void step() {
        of("23", "i: the step, from 0");
        MetricStore x = store(GAUGE, 5, -7);
        Check.ask(x, "sum(0,9)+count(0,8)+avg(1,7)", 9);
        dueMeasures(i -> x.step(i, 2), 9, 8, 7, NONE);
        due(x.step(-1, 2), NONE);
        of("23", "3 whether it has a value (1 or 0)");
        dueMeasures(i -> x.step(i, 3), 1, 1, 0, NONE);
        of("23", "4 the bits of the value, cast to float, -5 if it has none");
        dueMeasures(i -> x.step(i, 4), bits(-7), bits(1), MISSING, NONE);
        MetricStore y = store(GAUGE, 1, MOST, 4, LEAST);
        Check.ask(y, "rate(0,9)+inc(0,0)+inc(0,9)+sum(0,4)+min(0,0)", 4);
        dueMeasures(i -> y.step(i, 4), bits(-4294967295.0 / 3), 0, bits(-4294967295.0), bits(-1), MISSING, NONE);
        of("23", "NONE if there is no such step or what is invalid");
        MetricStore z = store(GAUGE, 5, -7);
        dueEach(NONE, i -> z.step(i, 0), 0, 1, -1, LEAST, MOST);
        Check.ask(z, "sum(0,9)", 9);
        dueEach(NONE, i -> z.step(i, 0), 1, 2, -1, LEAST, MOST);
        dueEach(NONE, what -> z.step(0, what), -1, 5, LEAST, MOST);
        Check.ask(z, "min(0,0)", 9);
        dueEach(NONE, what -> z.step(0, what), -1, 5, LEAST, MOST);
        Check.ask(z, "1", 9);
        dueEach(NONE, i -> z.step(i, 0), 0, 1, -1);
    }

    private static void dueExplained(MetricStore x, String formula, int time, String want) {
        Check.ask(x, formula, time);
        dueText(Check.explained(x, 0), want);
    }

    private static void explained() {
        of("24", "Returns a character of an explanation of a step of the latest evaluation: the name of the function, an "
            + "opening parenthesis, the series, a comma, the number w, a closing parenthesis, an equals sign, and the value "
            + "cast to a long in decimal, or a question mark if it has none");
        MetricStore x = store(GAUGE, 1, -1, 3, -2, 4, LEAST, 5, MOST, 6, MOST, 7, MOST, 8, 0, 9, 10);
        dueExplained(x, "rate(0,2)", 3, "rate(0,2)=0");
        dueExplained(x, "inc(0,999999)", 3, "inc(0,999999)=-1");
        dueExplained(x, "avg(0,9)", 3, "avg(0,9)=-1");
        dueExplained(x, "min(0,4)", 4, "min(0,4)=-2147483648");
        dueExplained(x, "max(0,4)", 5, "max(0,4)=2147483647");
        dueExplained(x, "sum(0,3)", 7, "sum(0,3)=6442450941");
        dueExplained(x, "inc(0,1)", 5, "inc(0,1)=4294967295");
        dueExplained(x, "rate(0,2)", 4, "rate(0,2)=-715827882");
        dueExplained(x, "count(0,0)", 9, "count(0,0)=0");
        dueExplained(x, "last(0,1)", 8, "last(0,1)=0");
        dueExplained(x, "last(0,1)", 9, "last(0,1)=10");
        dueExplained(x, "last(0,0)", 9, "last(0,0)=?");
        dueExplained(x, "count(7,123456)", 9, "count(7,123456)=?");
        dueExplained(x, "avg(0,0)", 9, "avg(0,0)=?");
        Check.ask(x, "count(0,1)+last(0,1)+min(0,0)", 9);
        dueText(Check.explained(x, 0), "count(0,1)=1");
        dueText(Check.explained(x, 1), "last(0,1)=10");
        dueText(Check.explained(x, 2), "min(0,0)=?");
    }

    private static void explainedErrors() {
        MetricStore x = store(GAUGE, 5, 7);
        Check.ask(x, "sum(0,9)+min(0,0)", 9);
        of("24", "i: the step, from 0");
        due(x.explained(0, 0), 's');
        due(x.explained(1, 0), 'm');
        due(x.explained(2, 0), NONE);
        of("24", "k: the index of the character, from 0, or -1 for the length");
        due(x.explained(0, -1), 10);
        due(x.explained(0, 0), 's');
        due(x.explained(0, 9), '7');
        due(x.explained(0, 10), NONE);
        due(x.explained(1, -1), 10);
        due(x.explained(1, 9), '?');
        of("24", "NONE if there is no such step or character");
        dueEach(NONE, i -> x.explained(i, 0), 2, 3, -1, LEAST, MOST);
        dueEach(NONE, i -> x.explained(i, -1), 2, 3, -1, LEAST, MOST);
        dueEach(NONE, k -> x.explained(0, k), -2, 10, 11, LEAST, MOST);
        MetricStore y = new MetricStore();
        due(y.explained(0, 0), NONE);
        due(y.explained(0, -1), NONE);
        Check.ask(x, "1", 9);
        due(x.explained(0, -1), NONE);
    }

    private static void store() {
        of("25", "Stores a measure of the kept rollups of a series, in their order, as a row");
        MetricStore x = store(COUNTER);
        for (int k = 0; k <= 40; k++) {
            append(x, 0, 10 * k + 5, k);
        }
        x.store(0, 0, 0, 8, 1);
        dueMeasures(i -> x.element(0, i), 1, 2, 3);
        due(x.element(0, 39), 40);
        due(x.element(0, 40), NO);
        x.store(0, 0, 1, 8, 1);
        dueMeasures(i -> x.element(0, i), 0, 6, 12, 18, 24, 30, 36, NO);
        append(x, 0, 406, 99);
        due(x.element(0, 6), 36);
        MetricStore y = store(GAUGE, 5, -7, 6, 4, 16, MOST, 17, MOST, 18, LEAST, 19, LEAST, 26, 16777217);
        of("25", "resolution: the resolution, 0 or 1");
        due(y.store(0, 0, 0, 0, 1), 3);
        due(y.store(0, 0, 1, 0, 1), 1);
        dueEach(NONE, resolution -> y.store(0, 0, resolution, 0, 1), -1, 2, LEAST, MOST);
        of("25", "what: the measure, 0 to 9");
        for (int what = 0; what <= 9; what++) {
            due(y.store(1, 0, 1, what, 1), 1);
            due(y.element(1, 0), (int) y.rollup(0, 1, 0, what));
        }
        due(y.store(1, 0, 1, 10, 1), NONE);
        due(y.store(1, 0, 1, -1, 1), NONE);
        of("25", "exact: 1 for a row of ints, the measures cast to int");
        y.store(0, 0, 0, 7, 1);
        dueMeasures(i -> y.element(0, i), -3, -2, 16777217, NO);
        y.store(0, 0, 0, 3, 1);
        dueMeasures(i -> y.element(0, i), 11, (int) (-2147483648L - 4), (int) (16777217L + 2147483648L), NO);
        y.store(0, 0, 0, 5, 1);
        dueMeasures(i -> y.element(0, i), -7, LEAST, 16777217, NO);
        of("25", "0 for a row of floats, the measures cast to float");
        y.store(0, 0, 0, 7, 0);
        dueMeasures(i -> y.element(0, i), bits(-3), bits(-2), bits(16777217), NO);
        y.store(0, 0, 0, 3, 0);
        dueMeasures(i -> y.element(0, i), bits(11), bits(-2147483652.0), bits(2164260865.0), NO);
        y.store(0, 0, 0, 6, 0);
        dueMeasures(i -> y.element(0, i), bits(4), bits(2147483647.0), bits(16777217), NO);
        y.store(0, 0, 0, 1, 0);
        dueMeasures(i -> y.element(0, i), 0, 0, 0, NO);
        of("25", "Returns the number of elements");
        due(y.store(0, 0, 0, 7, 0), 3);
        due(y.store(0, 0, 1, 7, 0), 1);
        due(x.store(0, 0, 0, 7, 0), 40);
        due(x.store(0, 0, 1, 7, 1), 7);
    }

    private static void storeErrors() {
        of("25", "NONE if there is no such row or series or resolution, the series is undefined, or what is invalid");
        MetricStore x = store(COUNTER, 5, 7);
        x.define(1, GAUGE);
        dueEach(NONE, row -> x.store(row, 0, 0, 0, 1), -1, 4, LEAST, MOST);
        dueNoSeries(NONE, s -> x.store(0, s, 0, 0, 1));
        dueEach(NONE, resolution -> x.store(0, 0, resolution, 0, 1), -1, 2, LEAST, MOST);
        dueEach(NONE, s -> x.store(0, s, 0, 0, 1), 2, 7);
        dueEach(NONE, what -> x.store(0, 0, 0, what, 1), -1, 10, LEAST, MOST);
        due(x.count(5), 0);
        of("25", "BAD if exact is neither 0 nor 1");
        dueEach(BAD, exact -> x.store(0, 0, 0, 0, exact), -1, 2, LEAST, MOST);
        due(x.count(5), 0);
        of("25", "STATE if there are no rollups");
        due(x.store(0, 1, 0, 0, 1), STATE);
        due(x.store(0, 1, 1, 0, 0), STATE);
        due(x.count(5), 0);
        append(x, 1, 1, 1);
        due(x.store(0, 1, 0, 0, 1), 1);
        x.define(1, GAUGE);
        due(x.store(0, 1, 0, 0, 1), STATE);
        due(x.element(0, 0), 1);
    }

    /** Rows 0 and 1 of 3 ints, 2 of 3 floats, 3 missing, from a series with the values 7, 9, 3 a step apart. */
    private static MetricStore rows() {
        MetricStore x = store(GAUGE, 5, 7, 15, 9, 25, 3);
        x.store(0, 0, 0, 7, 1);
        x.store(1, 0, 0, 3, 1);
        x.store(2, 0, 0, 7, 0);
        return x;
    }

    private static void copy() {
        of("26", "Copies the first elements of a row to the beginning of another one");
        MetricStore x = rows();
        dueMeasures(i -> x.element(1, i), 0, 2, -6, NO);
        x.copy(0, 1, 0);
        dueMeasures(i -> x.element(1, i), 0, 2, -6, NO);
        x.copy(0, 1, 1);
        dueMeasures(i -> x.element(1, i), 7, 2, -6, NO);
        x.copy(0, 1, 2);
        dueMeasures(i -> x.element(1, i), 7, 9, -6, NO);
        x.copy(0, 1, 3);
        dueMeasures(i -> x.element(1, i), 7, 9, 3, NO);
        dueMeasures(i -> x.element(0, i), 7, 9, 3, NO);
        of("26", "n: the number of elements, 0 or greater");
        due(x.copy(0, 1, -1), BAD);
        due(x.copy(0, 1, 0), 0);
        due(x.copy(0, 1, 1), 0);
        of("26", "Returns the number of elements of the other row that have another value then");
        MetricStore y = rows();
        due(y.copy(0, 1, 0), 0);
        due(y.copy(0, 1, 2), 2);
        due(y.copy(0, 1, 3), 1);
        due(y.copy(0, 1, 3), 0);
        y.store(3, 0, 0, 3, 0);
        due(y.copy(2, 3, 3), 3);
        due(y.copy(2, 3, 3), 0);
        dueMeasures(i -> y.element(3, i), bits(7), bits(9), bits(3), NO);
        y.define(0, GAUGE);
        append(y, 0, 5, 7, 15, 9, 25, 4);
        y.store(0, 0, 0, 7, 1);
        due(y.copy(1, 0, 2), 0);
        due(y.copy(1, 0, 3), 1);
    }

    private static void copyErrors() {
        of("26", "NONE if there is no such row");
        MetricStore x = rows();
        dueEach(NONE, row -> x.copy(row, 0, 1), -1, 4, LEAST, MOST);
        dueEach(NONE, row -> x.copy(0, row, 1), -1, 4, LEAST, MOST);
        dueEach(NONE, row -> x.copy(row, row, 1), -1, 4, LEAST, MOST);
        of("26", "STATE if one of them is missing");
        due(x.copy(3, 0, 1), STATE);
        due(x.copy(0, 3, 1), STATE);
        due(x.copy(3, 3, 0), STATE);
        due(x.copy(3, 0, 0), STATE);
        due(x.copy(0, 3, 0), STATE);
        of("26", "BAD if n is negative or above the length of one of them");
        MetricStore y = rows();
        y.store(3, 0, 1, 7, 1);
        due(y.copy(0, 3, 1), 1);
        dueEach(BAD, n -> y.copy(0, 3, n), -1, 2, 3, 4, LEAST, MOST);
        dueEach(BAD, n -> y.copy(3, 0, n), -1, 2, 3, 4, LEAST, MOST);
        dueEach(BAD, n -> y.copy(0, 1, n), -1, 4, 40, LEAST, MOST);
        dueEach(BAD, n -> y.copy(0, 2, n), -1, 4, LEAST, MOST);
        due(y.copy(0, 1, 3), 3);
        of("26", "FULL if n is greater than 0 and one is of ints and the other of floats");
        MetricStore z = rows();
        dueEach(FULL, n -> z.copy(0, 2, n), 1, 2, 3);
        dueEach(FULL, n -> z.copy(2, 0, n), 1, 2, 3);
        due(z.copy(0, 2, 0), 0);
        due(z.copy(2, 0, 0), 0);
        due(z.element(2, 0), bits(7));
        z.store(3, 0, 0, 8, 0);
        due(z.copy(2, 3, 3), 0);
    }

    private static void again() {
        of("27", "Makes a row the same as another one, as a row of its own");
        MetricStore x = rows();
        x.again(0, 3);
        dueMeasures(i -> x.element(3, i), 7, 9, 3, NO);
        x.copy(1, 0, 3);
        dueMeasures(i -> x.element(3, i), 7, 9, 3, NO);
        x.copy(1, 3, 1);
        dueMeasures(i -> x.element(0, i), 0, 2, -6, NO);
        x.store(0, 0, 1, 7, 1);
        x.again(0, 2);
        dueMeasures(i -> x.element(2, i), 19, NO);
        due(x.copy(2, 1, 1), 1);
        MetricStore y = rows();
        y.again(2, 0);
        dueMeasures(i -> y.element(0, i), bits(7), bits(9), bits(3), NO);
        due(y.copy(0, 1, 1), FULL);
        for (int k = 3; k < 60; k++) {
            append(y, 0, 10 * k + 5, k);
        }
        y.store(0, 0, 0, 7, 1);
        due(y.again(0, 1), 40);
        due(y.element(1, 39), 59);
        of("27", "Returns its length");
        due(x.again(2, 3), 1);
        due(x.again(1, 3), 3);
        due(x.again(1, 1), 3);
        of("27", "NONE if there is no such row");
        dueEach(NONE, row -> x.again(row, 0), -1, 4, LEAST, MOST);
        dueEach(NONE, row -> x.again(0, row), -1, 4, LEAST, MOST);
        of("27", "STATE if from is missing");
        MetricStore z = rows();
        due(z.again(3, 0), STATE);
        due(z.again(3, 3), STATE);
        due(z.count(5), 3);
        dueMeasures(i -> z.element(0, i), 7, 9, 3, NO);
        due(z.again(0, 3), 3);
    }

    private static void element() {
        of("28", "Returns the element of a row of ints, or the bits of that of a row of floats, as a long");
        MetricStore x = store(GAUGE, 5, LEAST, 15, -1, 25, 0, 35, MOST);
        x.store(0, 0, 0, 8, 1);
        x.store(1, 0, 0, 8, 0);
        dueMeasures(i -> x.element(0, i), LEAST, -1, 0, MOST, NO);
        dueMeasures(i -> x.element(1, i), bits(LEAST), bits(-1), bits(0), bits(MOST), NO);
        of("28", "NO if there is no such row, it is missing, or there is no such index");
        dueEach(NO, row -> x.element(row, 0), -1, 4, LEAST, MOST);
        dueEach(NO, row -> x.element(row, 0), 2, 3);
        dueEach(NO, i -> x.element(0, i), -1, 4, 39, 40, LEAST, MOST);
        dueEach(NO, i -> x.element(1, i), -1, 4, 40, LEAST, MOST);
        for (int k = 4; k < 50; k++) {
            append(x, 0, 10 * k + 5, k);
        }
        x.store(0, 0, 0, 8, 1);
        due(x.element(0, 39), 49);
        due(x.element(0, 40), NO);
        x.store(0, 0, 1, 8, 1);
        due(x.element(0, 9), NO);
    }

    private static void image() {
        of("29", "Takes a snapshot, in place of an earlier one");
        MetricStore x = store(COUNTER, 5, 7);
        x.image();
        append(x, 0, 6, 8);
        x.parameter(0, 5);
        x.image();
        x.define(0, GAUGE);
        x.parameter(0, 6);
        x.undo();
        due(x.series(0, 0), COUNTER);
        due(x.series(0, 1), 2);
        due(x.count(6), 5);
        of("29", "Returns the number of samples that all series keep");
        MetricStore y = new MetricStore();
        due(y.image(), 0);
        for (int s = 0; s < 8; s++) {
            y.define(s, GAUGE);
            append(y, s, 9, 9);
            due(y.image(), s + 1);
        }
        appendEach(y, 0, 10, 75);
        due(y.image(), 7 + 59);
        y.parameter(1, 1);
        due(y.image(), 7 + 3);
    }

    private static void undo() {
        of("30", "Restores the snapshot, which stays");
        MetricStore x = store(COUNTER);
        appendEach(x, 0, 1, 20);
        x.parameter(1, 3);
        x.image();
        for (int i = 0; i < 3; i++) {
            append(x, 0, 21 + i, 4, 25 + i, 9);
            x.parameter(1, 1);
            due(x.count(2), 16);
            x.undo();
            due(x.count(2), 0);
            due(x.count(7), 3);
            dueMeasures(what -> x.window(0, 0, 99, what), 20, 0, 0, 19, 19, 1, 20, 210, 1, 20);
            dueMeasures(what -> x.rolled(0, 0, 0, 30, what), 20, 0, 0, 19, 19, 1, 20, 210, 1, 20);
        }
        Check.histogram(x, 0, "5");
        x.undo();
        due(x.series(0, 0), COUNTER);
        due(x.series(0, 7), 0);
        due(x.append(0, 20, 1), BAD);
        due(x.append(0, 21, 1), 21);
        of("30", "Returns the number of samples that all series keep");
        due(x.undo(), 20);
        due(x.undo(), 20);
        MetricStore y = new MetricStore();
        y.image();
        y.define(7, GAUGE);
        append(y, 7, 1, 1);
        due(y.undo(), 0);
        due(y.series(7, 0), MISSING);
        of("30", "STATE if there is no snapshot");
        MetricStore z = store(COUNTER, 5, 7);
        due(z.undo(), STATE);
        due(z.undo(), STATE);
        due(z.series(0, 1), 1);
        z.image();
        due(z.undo(), 1);
    }

    private static void count() {
        of("31", "what: 0 the defined series");
        MetricStore x = new MetricStore();
        due(x.count(0), 0);
        x.define(0, COUNTER);
        x.define(7, GAUGE);
        Check.histogram(x, 3, "5");
        due(x.count(0), 3);
        x.define(7, COUNTER);
        due(x.count(0), 3);
        of("31", "3 the bytes on the tape");
        due(x.count(3), 0);
        for (int i = 0; i < 62; i++) {
            x.feed('1');
            due(x.count(3), Math.min(60, i + 1));
        }
        x.ask(1);
        due(x.count(3), 0);
        of("31", "4 the steps of the latest evaluation");
        due(x.count(4), 0);
        Check.ask(x, "sum(0,1)+sum(0,1)+sum(0,1)+sum(0,1)+sum(0,1)+sum(0,1)", 9);
        due(x.count(4), 6);
        Check.ask(x, "min(0,1)+sum(0,1)", 9);
        due(x.count(4), 1);
        Check.ask(x, "1", 9);
        due(x.count(4), 0);
        of("31", "5 the rows that are not missing");
        due(x.count(5), 0);
        append(x, 0, 5, 7);
        for (int row = 0; row < 4; row++) {
            x.store(row, 0, 0, 0, 1);
            due(x.count(5), row + 1);
        }
        x.store(0, 0, 0, 0, 0);
        x.again(1, 2);
        due(x.count(5), 4);
        of("31", "6 and 7 the parameters 0 and 1");
        due(x.count(6), 30);
        due(x.count(7), 8);
        x.parameter(0, 9999);
        x.parameter(1, 1);
        due(x.count(6), 9999);
        due(x.count(7), 1);
        of("31", "NONE if what is invalid");
        dueEach(NONE, x::count, -1, 10, 11, LEAST, MOST);
    }

    private static void countSamples() {
        of("31", "1 the samples that all series keep");
        MetricStore x = store(COUNTER);
        x.define(7, GAUGE);
        due(x.count(1), 0);
        appendEach(x, 0, 1, 64);
        appendEach(x, 7, 1, 10);
        due(x.count(1), 74);
        appendEach(x, 0, 65, 65);
        due(x.count(1), 67);
        of("31", "2 the samples that were dropped by series as they are defined now");
        due(x.count(2), 8);
        x.parameter(1, 1);
        due(x.count(2), 64 + 8);
        x.define(7, GAUGE);
        due(x.count(2), 64);
        Check.histogram(x, 0, "5");
        due(x.count(2), 0);
        of("31", "8 the resets and 9 the gaps among the pairs of all kept samples");
        MetricStore y = store(COUNTER, 1, 9, 2, 8, 99, 7, 100, 6, 199, 6, 299, 7);
        y.define(7, GAUGE);
        append(y, 7, 1, 9, 2, 8, 99, 5);
        due(y.count(8), 2);
        due(y.count(9), 4);
        append(y, 0, 300, 1, 301, 0, 302, 0);
        due(y.count(8), 4);
        y.parameter(1, 1);
        due(y.count(8), 0);
        due(y.count(9), 1);
        append(y, 0, 303, 1, 304, 0, 399, 0);
        due(y.count(8), 1);
        due(y.count(9), 2);
        MetricStore z = store(COUNTER);
        z.parameter(1, 1);
        appendEach(z, 0, 1, 8);
        append(z, 0, 9, 0);
        due(z.series(0, 1), 1);
        due(z.count(8), 1);
        z.define(0, COUNTER);
        appendEach(z, 0, 1, 8);
        append(z, 0, 99, 0);
        due(z.count(8), 0);
        due(z.count(9), 1);
    }
}
