/** The description from the merging to the snapshot: merging, formulas, rows, parameters, snapshot. */
final class FormulaSentences extends SentenceCase {
    private static final String LONGEST = "999999+999999+999999+999999+999999+999999+999999+999999+1234";

    private FormulaSentences() {
    }

    static void test() {
        sumsOfChanges();
        mergedBounds();
        lastBucket();
        quantiles();
        quantileInLastBucket();
        sixtyBytes();
        grammar();
        numbers();
        seriesDigits();
        functions();
        sixOpen();
        errorPositions();
        leftToRight();
        numbersAreTheirValues();
        functionWindows();
        dividedMeasures();
        noValue();
        evaluationEnds();
        fourRows();
        rowLengths();
        gapParameter();
        retentionParameter();
        snapshot();
    }

    private static void sumsOfChanges() {
        of("Merging", "The changes of the buckets of a histogram in a window are the sums of the changes of the pairs");
        MetricStore x = observed("5,10", 1, 7, 7);
        observe(x, 0, 1, 7, 99);
        x.scrape(0, 3);
        x.restart(0);
        observe(x, 0, 1, 1);
        x.scrape(0, 4);
        observe(x, 0, 1, 1);
        x.scrape(0, 35);
        dueMeasures(k -> x.bucket(0, 0, 1, k), 0, 0, 0);
        dueMeasures(k -> x.bucket(0, 1, 2, k), 1, 2, 0);
        dueMeasures(k -> x.bucket(0, 1, 3, k), 1, 3, 1);
        dueMeasures(k -> x.bucket(0, 0, 4, k), 2, 3, 1);
        dueMeasures(k -> x.bucket(0, 0, 35, k), 2, 3, 1);
        dueMeasures(k -> x.merged(1, 0, 35, 20 + k), 2, 3, 1, NO);
        dueMeasures(k -> x.bucket(0, 3, 3, k), 0, 0, 0);
    }

    /** Histograms 0 to 3 with a sample at 1 and one at 2 that has one observation of each of 1 to 9. */
    private static MetricStore fourHistograms() {
        MetricStore x = new MetricStore();
        String[] bounds = {"1,2,3,4,5,6", "1,3,5,7", "6,7", "8"};
        for (int s = 0; s < 4; s++) {
            Check.histogram(x, s, bounds[s]);
            x.scrape(s, 1);
            observe(x, s, 1, 1, 2, 3, 4, 5, 6, 7, 8, 9);
            x.scrape(s, 2);
        }
        return x;
    }

    private static void mergedBounds() {
        of("Merging", "The merge of some histograms for a window has the bounds that are bounds of all of them, ascending, "
            + "and, for each bound, the sum of the changes of all buckets up to it, of all these histograms, minus the same "
            + "for the bound before");
        MetricStore x = fourHistograms();
        due(x.merged(1, 0, 2, 0), 6);
        dueMeasures(k -> x.merged(1, 0, 2, 10 + k), 1, 2, 3, 4, 5, 6, NO);
        dueMeasures(k -> x.merged(1, 0, 2, 20 + k), 1, 1, 1, 1, 1, 1, 3, NO);
        due(x.merged(3, 0, 2, 0), 3);
        dueMeasures(k -> x.merged(3, 0, 2, 10 + k), 1, 3, 5, NO);
        dueMeasures(k -> x.merged(3, 0, 2, 20 + k), 2, 4, 4, 8, NO);
        dueMeasures(k -> x.merged(5, 0, 2, 10 + k), 6, NO);
        dueMeasures(k -> x.merged(5, 0, 2, 20 + k), 12, 6, NO);
        dueMeasures(k -> x.merged(6, 0, 2, 10 + k), 7, NO);
        dueMeasures(k -> x.merged(6, 0, 2, 20 + k), 14, 4, NO);
        due(x.merged(7, 0, 2, 0), 0);
        due(x.merged(15, 0, 2, 1), 36);
        dueMeasures(k -> x.merged(3, 2, 9, 20 + k), 0, 0, 0, 0, NO);
    }

    private static void lastBucket() {
        of("Merging", "and behind its bounds a last bucket with the rest");
        MetricStore x = fourHistograms();
        due(x.merged(8, 0, 2, 21), 1);
        due(x.merged(8, 0, 2, 22), NO);
        due(x.merged(9, 0, 2, 0), 0);
        due(x.merged(9, 0, 2, 20), 18);
        due(x.merged(9, 0, 2, 21), NO);
        due(x.merged(1, 0, 2, 26), 3);
        due(x.merged(1, 0, 2, 27), NO);
    }

    private static void dueQuantile(MetricStore x, int set, int q, long numerator, long denominator) {
        due(x.quantile(set, 0, 9, q, 0), numerator);
        due(x.quantile(set, 0, 9, q, 1), denominator);
    }

    private static void quantiles() {
        of("Merging", "The quantile q, 1 to 100, of a merge is found by its rank, the least integer that is not less than q "
            + "times the sum of all its buckets divided by 100: in the first bucket with which the buckets so far reach "
            + "this rank, it is l + (u - l) * (rank - n) / m, with u as the bound of the bucket, l as the bound before it, "
            + "0 for the first one, n as the sum of the buckets before it, and m as this bucket");
        MetricStore x = observed("10,20,30,40", 1, 11, 12, 31);
        dueQuantile(x, 1, 0, NO, NO);
        dueQuantile(x, 1, 101, NO, NO);
        dueQuantile(x, 1, 1, 10, 1);
        dueQuantile(x, 1, 25, 10, 1);
        dueQuantile(x, 1, 26, 15, 1);
        dueQuantile(x, 1, 50, 15, 1);
        dueQuantile(x, 1, 51, 20, 1);
        dueQuantile(x, 1, 75, 20, 1);
        dueQuantile(x, 1, 76, 40, 1);
        dueQuantile(x, 1, 100, 40, 1);
        MetricStore y = observed("7,9999", 1, 2, 3);
        dueQuantile(y, 1, 1, 7, 3);
        dueQuantile(y, 1, 33, 7, 3);
        dueQuantile(y, 1, 34, 14, 3);
        dueQuantile(y, 1, 67, 7, 1);
        MetricStore z = observed("1,9999", 2, 3, 4, 5, 6, 7, 8);
        dueQuantile(z, 1, 1, 7 + 9998, 7);
        dueQuantile(z, 1, 100, 9999, 1);
        MetricStore one = observed("9", 1);
        dueQuantile(one, 1, 1, 9, 1);
        dueQuantile(one, 1, 100, 9, 1);
        MetricStore many = fourHistograms();
        dueQuantile(many, 3, 11, 1, 1);
        dueQuantile(many, 3, 12, 3, 2);
        dueQuantile(many, 6, 100, 7, 1);
    }

    private static void quantileInLastBucket() {
        of("Merging", "in the last bucket it is the greatest bound");
        MetricStore x = observed("10,20", 1, 21, 9999);
        dueQuantile(x, 1, 33, 10, 1);
        dueQuantile(x, 1, 34, 20, 1);
        dueQuantile(x, 1, 100, 20, 1);
        MetricStore y = observed("10", 11);
        dueQuantile(y, 1, 1, 10, 1);
        MetricStore z = fourHistograms();
        dueQuantile(z, 3, 50, 9, 2);
        dueQuantile(z, 3, 55, 5, 1);
        dueQuantile(z, 3, 56, 5, 1);
        dueQuantile(z, 3, 100, 5, 1);
    }

    private static void sixtyBytes() {
        of("Formulas", "A formula is a text on the tape, which holds at most 60 bytes, of the following form, without spaces");
        MetricStore x = new MetricStore();
        due(LONGEST.length(), 60);
        Check.feed(x, LONGEST);
        due(x.feed('5'), FULL);
        due(x.ask(1), 1);
        due(x.answerBits(), bits(8 * 999999.0 + 1234));
        dueWrong("", 0);
        dueWrong(" 1", 0);
        dueWrong("1 ", 1);
        dueWrong("1 +1", 1);
        dueWrong("1+ 1", 2);
        dueWrong("count(0, 5)", 8);
        dueWrong("count( 0,5)", 6);
    }

    private static void grammar() {
        of("Formulas", "sum = product { ( \"+\" | \"-\" ) product } product = factor { ( \"*\" | \"/\" ) factor } factor = "
            + "\"-\" factor | number | \"(\" sum \")\" | function \"(\" series \",\" number \")\"");
        MetricStore x = store(COUNTER, 5, 7);
        dueValue(x, "7", 9, 7);
        dueValue(x, "1+2*3-8/4", 9, 5);
        dueValue(x, "(1+2)*(8-3)", 9, 15);
        dueValue(x, "-2*3", 9, -6);
        dueValue(x, "-(2+3)-1", 9, -6);
        dueValue(x, "2*-3", 9, -6);
        dueValue(x, "2--3", 9, 5);
        dueValue(x, "-2/-4", 9, 0.5);
        dueValue(x, "5/1", 9, 5);
        dueValue(x, "5/-1", 9, -5);
        dueValue(x, "5*1+5*0+0-1", 9, 4);
        dueValue(x, "-sum(0,9)*2", 9, -14);
        dueWrong("+1", 0);
        dueWrong("*1", 0);
        dueWrong("1**1", 2);
        dueWrong("1+*1", 2);
        dueWrong("1-/1", 2);
        dueWrong("1/+1", 2);
        dueWrong("()", 1);
        dueWrong("(1+)", 3);
        dueWrong("1)", 1);
        dueWrong("(1)(2)", 3);
        dueWrong("2(3)", 1);
        dueWrong("(1)2", 3);
        dueWrong("sum(0,9)1", 8);
        dueWrong("sum(0)", 5);
        dueWrong("sum()", 4);
        dueWrong("sum(,9)", 4);
        dueWrong("sum,9)", 3);
        dueWrong("sum(0,)", 6);
        dueWrong("sum(0,9,9)", 7);
        dueWrong("sum(0,(9))", 6);
        dueWrong("sum((0),9)", 4);
        dueWrong("sum", 3);
        dueWrong("sum*2", 3);
        dueWrong("1,2", 1);
        dueWrong("(1,2)", 2);
    }

    private static void numbers() {
        of("Formulas", "A number has 1 to 6 digits, without leading zeros unless it is 0");
        MetricStore x = new MetricStore();
        dueValue(x, "1", 9, 1);
        dueValue(x, "100000", 9, 100000);
        dueValue(x, "999999", 9, 999999);
        dueWrong("1000000", 6);
        dueWrong("1234567+1", 6);
        dueValue(x, "0", 9, 0);
        dueWrong("00", 1);
        dueWrong("01", 1);
        dueWrong("5+007", 3);
        dueValue(x, "10+20", 9, 30);
        x.define(0, COUNTER);
        dueValue(x, "count(0,0)", 9, 0);
        dueValue(x, "count(0,999999)", 9, 0);
        dueWrong("count(0,1000000)", 14);
        dueWrong("count(0,05)", 9);
        dueWrong("count(0,00)", 9);
        due(Check.histogram(x, 1, "999999"), BAD);
        due(Check.histogram(x, 1, "1000000"), -106);
        due(Check.histogram(x, 1, "0"), BAD);
        due(Check.histogram(x, 1, "00"), -101);
        due(Check.histogram(x, 1, "5,06"), -103);
        due(Check.histogram(x, 1, "5,1234567"), -108);
    }

    private static void seriesDigits() {
        of("Formulas", "a series is a digit 0 to 7");
        MetricStore x = new MetricStore();
        for (int s = 0; s < 8; s++) {
            x.define(s, GAUGE);
            append(x, s, 5, s);
            dueValue(x, "sum(" + s + ",9)", 9, s);
        }
        dueWrong("sum(8,9)", 4);
        dueWrong("sum(9,9)", 4);
        dueWrong("sum(/,9)", 4);
        dueWrong("sum(-1,9)", 4);
        dueWrong("sum(10,9)", 5);
        dueWrong("sum(00,9)", 5);
        dueWrong("sum(a,9)", 4);
    }

    private static void functions() {
        of("Formulas", "the functions are rate, inc, avg, min, max, sum, count and last, numbered from 0");
        MetricStore x = store(GAUGE, 1, 5, 3, 4);
        for (int f = 0; f < 8; f++) {
            due(Check.ask(x, NAMES[f] + "(0,9)", 9), 1);
            due(x.step(0, 0), f);
            dueWrong(NAMES[f].substring(0, 2), 2);
            dueWrong(NAMES[f], NAMES[f].length());
            dueWrong(NAMES[f] + "s(0,9)", NAMES[f].length());
        }
        dueWrong("Rate(0,9)", 0);
        dueWrong("mix(0,9)", 2);
        dueWrong("man(0,9)", 2);
        dueWrong("mean(0,9)", 1);
        dueWrong("coun(0,9)", 4);
        dueWrong("increase(0,9)", 3);
        dueWrong("first(0,9)", 0);
    }

    private static void sixOpen() {
        of("Formulas", "At most 6 of the following may be open at once: parentheses, those of functions included, and the "
            + "sign - in front of a factor, until the factor ends");
        MetricStore x = store(COUNTER, 5, 7);
        dueValue(x, "((((((1))))))", 9, 1);
        dueWrong("(((((((1)))))))", 6);
        dueValue(x, "------1", 9, 1);
        dueWrong("-------1", 6);
        dueValue(x, "(-(-(-1)))", 9, -1);
        dueWrong("(-(-(-(1))))", 6);
        dueWrong("(-(-(--1)))", 6);
        dueValue(x, "(((((sum(0,9))))))", 9, 7);
        dueValue(x, "-----sum(0,9)", 9, -7);
        dueWrong("((((((sum(0,9)))))))", 6);
        dueWrong("------sum(0,9)", 6);
        dueValue(x, "((((((1))))))*((((((2))))))", 9, 2);
        dueValue(x, "------1-1--1---1", 9, 0);
        dueValue(x, "(((((-1*-2+-3)))))", 9, -1);
        dueValue(x, "(((((sum(0,9)+(1)-sum(0,9))))))", 9, 1);
        dueValue(x, "((((((1)+1)+1)+1)+1)+1)+((1))", 9, 7);
        dueValue(x, "-(((((1-2)))))", 9, 1);
        dueWrong("-(((((1--2)))))", 8);
        dueWrong("((((((1)+((", 10);
    }

    private static void errorPositions() {
        of("Formulas", "The error position of a text is the index of its first byte with which no formula can continue, or "
            + "its length if it ends too early");
        dueWrong("", 0);
        dueWrong("-", 1);
        dueWrong("(", 1);
        dueWrong("1+", 2);
        dueWrong("1*", 2);
        dueWrong("(1", 2);
        dueWrong("((1)", 4);
        dueWrong("r", 1);
        dueWrong("ra", 2);
        dueWrong("rat", 3);
        dueWrong("rate", 4);
        dueWrong("rate(", 5);
        dueWrong("rate(1", 6);
        dueWrong("rate(1,", 7);
        dueWrong("rate(1,0", 8);
        dueWrong("m", 1);
        dueWrong("1+1+sum(0,1", 11);
        dueWrong("((((((", 6);
        dueWrong("a", 1);
        dueWrong("x", 0);
        dueWrong("ax", 1);
        dueWrong("avx", 2);
        dueWrong("mx", 1);
        dueWrong("sumx", 3);
        dueWrong("rate)", 4);
        dueWrong("rate(1)", 6);
        dueWrong("rate(1,x", 7);
        dueWrong("rate(1,0x", 8);
        dueWrong("rate(1,0)x", 9);
        dueWrong("1x+", 1);
        dueWrong("x1+(", 0);
        dueWrong("1+(2x", 4);
        dueWrong("\u0000", 0);
        dueWrong("1\u007f", 1);
        dueWrong("((((((m", 6);
        dueWrong("-".repeat(60), 6);
        dueWrong("1+".repeat(30), 60);
        dueWrong("1-".repeat(29) + "1x", 59);
    }

    private static void leftToRight() {
        of("Formulas", "A formula is evaluated at a time t with doubles, from left to right");
        MetricStore x = store(COUNTER, 5, 7);
        dueValue(x, "1-2-3", 9, -4);
        dueValue(x, "100/10/5", 9, 2);
        dueValue(x, "100/10*5", 9, 50);
        dueValue(x, "1/10+2/10+3/10-6/10", 9, 1.0 / 10 + 2.0 / 10 + 3.0 / 10 - 6.0 / 10);
        dueValue(x, "16777*1000+217-16777*1000", 9, 217);
        dueValue(x, "1/3*3-1", 9, 0);
        dueValue(x, "sum(0,9)-(sum(0,4)+count(0,5))", 9, 6);
        dueMeasures(i -> x.step(i, 2), 9, 4, 5, NONE);
        dueValue(x, "count(0,1)+sum(0,2)*inc(0,3)-last(0,9)", 9, -7);
        dueMeasures(i -> x.step(i, 2), 1, 2, 3, 9, NONE);
        dueValue(x, "count(0,9)", 4, 0);
        dueValue(x, "count(0,9)", 5, 1);
    }

    private static void numbersAreTheirValues() {
        of("Formulas", "A number is its value");
        MetricStore x = new MetricStore();
        dueValue(x, "0", 9, 0);
        dueValue(x, "9", 9, 9);
        dueValue(x, "10", 9, 10);
        dueValue(x, "907060", 9, 907060);
        dueValue(x, "999999", 9, 999999);
    }

    private static void functionWindows() {
        of("Formulas", "A function of a series and the number w is about the window (t - w, t]: inc is the measure 3, count "
            + "0, sum 7, min 5, max 6, last 9");
        MetricStore x = store(GAUGE, 10, 8, 20, -4, 30, 3, 40, 5);
        dueValue(x, "count(0,10)", 30, 1);
        dueValue(x, "count(0,11)", 30, 2);
        dueValue(x, "count(0,10)", 29, 1);
        dueValue(x, "count(0,9)", 29, 0);
        dueValue(x, "count(0,0)", 30, 0);
        dueValue(x, "count(0,30)", 30, 3);
        dueValue(x, "count(0,999999)", 30, 3);
        dueValue(x, "count(0,999999)", 999999, 4);
        dueValue(x, "count(0,999959)", 999999, 0);
        dueValue(x, "count(0,999960)", 999999, 1);
        dueValue(x, "inc(0,20)", 30, -5);
        dueValue(x, "sum(0,21)", 30, 7);
        dueValue(x, "min(0,21)", 30, -4);
        dueValue(x, "max(0,21)", 30, 8);
        dueValue(x, "last(0,21)", 30, 3);
        dueValue(x, "max(0,10)", 40, 5);
        dueValue(x, "last(0,11)", 20, -4);
    }

    private static void dividedMeasures() {
        of("Formulas", "rate is the measure 3 divided by the measure 4, avg the measure 7 divided by the measure 0");
        MetricStore x = store(GAUGE, 10, 8, 20, -4, 30, 3, 70, 5);
        dueValue(x, "rate(0,20)", 30, -5 / 20.0);
        dueValue(x, "rate(0,10)", 30, 7 / 10.0);
        dueValue(x, "avg(0,20)", 30, -1 / 2.0);
        dueValue(x, "avg(0,21)", 30, 7 / 3.0);
        dueValue(x, "avg(0,1)", 30, 3);
        dueNoValue(x, "rate(0,5)", 10);
        dueNoValue(x, "rate(0,5)", 70);
        dueValue(x, "avg(0,5)", 70, 5);
        dueNoValue(x, "rate(0,5)", 60);
        dueNoValue(x, "avg(0,5)", 60);
        MetricStore y = store(COUNTER, 10, 8, 20, 8);
        dueValue(y, "rate(0,10)", 20, 0);
    }

    private static void noValue() {
        of("Formulas", "A formula has no value if a series in it is undefined, a measure does not exist, or something is "
            + "divided by 0");
        MetricStore x = store(COUNTER, 10, 0);
        for (String name : NAMES) {
            dueNoValue(x, name + "(1,9)", 10);
            dueNoValue(x, "1+" + name + "(7,0)*0", 10);
        }
        for (String name : new String[] {"min", "max", "last", "rate", "avg"}) {
            dueNoValue(x, name + "(0,9)", 9);
            dueNoValue(x, "0*" + name + "(0,0)", 10);
        }
        for (String name : new String[] {"inc", "sum", "count"}) {
            dueValue(x, name + "(0,9)", 9, 0);
        }
        for (String name : new String[] {"min", "max", "last", "avg", "inc", "sum"}) {
            dueValue(x, name + "(0,1)", 10, 0);
            dueNoValue(x, "1/" + name + "(0,1)", 10);
        }
        dueNoValue(x, "1/0", 10);
        dueNoValue(x, "0/0", 10);
        dueNoValue(x, "5-1/(2-2)", 10);
        dueNoValue(x, "(1/0)*0", 10);
        dueNoValue(x, "-(1/0)", 10);
        dueValue(x, "0/1", 10, 0);
    }

    private static void evaluationEnds() {
        of("Formulas", "the evaluation ends there");
        MetricStore x = store(COUNTER, 10, 3);
        dueNoValue(x, "1/0+sum(0,1)", 10);
        due(x.count(4), 0);
        dueNoValue(x, "sum(0,1)/0+sum(0,2)", 10);
        due(x.count(4), 1);
        due(x.step(0, 3), 1);
        dueNoValue(x, "sum(0,1)+sum(7,2)+sum(0,3)", 10);
        due(x.count(4), 2);
        due(x.step(1, 3), 0);
        dueNoValue(x, "min(0,0)*sum(0,1)", 10);
        due(x.count(4), 1);
        dueNoValue(x, "sum(0,1)+1/(sum(0,2)*0)+sum(0,3)", 10);
        due(x.count(4), 2);
        dueNoValue(x, "rate(0,9)-min(0,0)", 10);
        due(x.count(4), 1);
    }

    private static void fourRows() {
        of("Rows", "There are 4 rows, numbered from 0, which are missing at first");
        MetricStore x = store(COUNTER, 10, 3);
        due(x.count(5), 0);
        dueEach(NO, row -> x.element(row, 0), 0, 1, 2, 3, 4);
        dueEach(STATE, row -> x.again(row, row), 0, 1, 2, 3);
        dueEach(NONE, row -> x.again(row, row), -1, 4, LEAST, MOST);
        dueEach(NONE, row -> x.store(row, 0, 0, 0, 1), -1, 4, LEAST, MOST);
        due(x.store(0, 0, 0, 7, 1), 1);
        due(x.count(5), 1);
        due(x.store(3, 0, 0, 7, 1), 1);
        due(x.element(0, 0), 3);
        due(x.element(3, 0), 3);
        dueEach(1, row -> x.store(row, 0, 0, 7, 0), 1, 2);
        due(x.count(5), 4);
    }

    private static void rowLengths() {
        of("Rows", "A row holds 1 to 40 ints or floats");
        MetricStore x = store(COUNTER);
        due(x.store(0, 0, 0, 7, 1), STATE);
        due(x.store(0, 0, 0, 7, 0), STATE);
        append(x, 0, 10, 1);
        due(x.store(0, 0, 0, 7, 1), 1);
        due(x.store(1, 0, 0, 7, 0), 1);
        due(x.element(0, 1), NO);
        for (int k = 2; k <= 40; k++) {
            append(x, 0, 10 * k, k);
        }
        due(x.store(0, 0, 0, 7, 1), 40);
        due(x.store(1, 0, 0, 7, 0), 40);
        due(x.element(0, 39), 40);
        due(x.element(1, 39), bits(40));
        append(x, 0, 410, 41);
        due(x.store(0, 0, 0, 7, 1), 40);
        due(x.store(1, 0, 0, 7, 0), 40);
        due(x.element(0, 0), 2);
        due(x.element(0, 39), 41);
        due(x.element(0, 40), NO);
        due(x.element(1, 39), bits(41));
        due(x.element(1, 40), NO);
    }

    private static void gapParameter() {
        of("Parameters", "They are: 0 the gap, 1 to 9999, initially 30");
        MetricStore x = store(COUNTER, 1, 1, 31, 1, 62, 1);
        due(x.count(6), 30);
        due(x.sample(0, 1, 2), 1);
        due(x.sample(0, 2, 2), 3);
        dueEach(BAD, v -> x.parameter(0, v), 0, -1, 10000, LEAST, MOST);
        due(x.parameter(0, 1), 30);
        append(x, 0, 63, 1, 65, 1);
        due(x.sample(0, 3, 2), 1);
        due(x.sample(0, 4, 2), 3);
        due(x.parameter(0, 9999), 1);
        append(x, 0, 65 + 9999, 1, 65 + 9999 + 10000, 1);
        due(x.sample(0, 5, 2), 1);
        due(x.sample(0, 6, 2), 3);
        due(x.count(6), 9999);
    }

    private static void retentionParameter() {
        of("Parameters", "1 the retention, 1 to 8, initially 8");
        MetricStore x = store(COUNTER);
        due(x.count(7), 8);
        appendEach(x, 0, 1, 64);
        due(x.series(0, 1), 64);
        appendEach(x, 0, 65, 65);
        due(x.series(0, 1), 57);
        dueEach(BAD, v -> x.parameter(1, v), 0, -1, 9, LEAST, MOST);
        due(x.parameter(1, 1), 8);
        due(x.series(0, 1), 1);
        due(x.parameter(1, 8), 1);
        due(x.count(7), 8);
    }

    private static void snapshot() {
        of("Snapshot", "The snapshot contains the series with their samples, present counts and rollups, and the parameters");
        MetricStore x = observed("5,10", 1, 7);
        observe(x, 0, 4, 8);
        x.define(1, COUNTER);
        append(x, 1, 10, 5, 20, 2);
        x.parameter(0, 77);
        x.parameter(1, 3);
        x.image();
        x.parameter(0, 5);
        x.parameter(1, 1);
        x.restart(0);
        x.scrape(0, 50);
        append(x, 1, 21, 9);
        x.define(2, GAUGE);
        x.store(0, 1, 0, 7, 1);
        dueValue(x, "sum(1,9)", 21, 11);
        Check.feed(x, "12");
        x.undo();
        due(x.count(0), 2);
        due(x.series(2, 0), MISSING);
        due(x.series(0, 1), 2);
        dueMeasures(k -> x.series(0, 10 + k), 5, 10, NONE);
        dueMeasures(k -> x.series(0, 20 + k), 1, 5, 0, NONE);
        dueMeasures(k -> x.bucket(0, 0, 99, k), 1, 1, 0);
        due(x.series(1, 4), 20);
        dueMeasures(what -> x.sample(1, 1, what), 20, 2, 2, 2, 10);
        due(x.series(1, 5), 2);
        due(x.rollup(1, 1, 0, 0), 2);
        due(x.count(6), 77);
        due(x.count(7), 3);
        due(x.count(3), 2);
        due(x.count(4), 1);
        due(x.answerBits(), bits(11));
        due(x.element(0, 2), 9);
        Check.ask(x, "", 1);
        Check.histogram(x, 0, "1,2,3,4,5,6");
        observe(x, 0, 7, 1, 2, 3, 4, 5, 6, 7);
        x.scrape(0, 3);
        x.scrape(0, 4);
        x.define(1, GAUGE);
        append(x, 1, 20, -1, 21, 7, 70, 3, 300, 4);
        x.undo();
        dueMeasures(k -> x.series(0, 10 + k), 5, 10, NONE);
        dueMeasures(k -> x.sample(0, 0, 10 + k), 0, 0, 0, NO);
        dueMeasures(k -> x.sample(0, 1, 10 + k), 1, 1, 0, NO);
        dueMeasures(k -> x.bucket(0, 1, 2, k), 1, 1, 0, NO);
        dueMeasures(what -> x.rollup(0, 0, 0, what), 2, 0, 0, 2, 1, 0, 2, 2, 0, 2, 0);
        due(x.series(1, 0), COUNTER);
        dueMeasures(what -> x.window(1, 0, 99, what), 2, 1, 0, 2, 10, 2, 5, 7, 5, 2);
        dueMeasures(what -> x.rollup(1, 0, 0, what), 1, 0, 0, 0, 0, 5, 5, 5, 5, 5, 0);
        dueMeasures(what -> x.rollup(1, 0, 1, what), 1, 1, 0, 2, 10, 2, 2, 2, 2, 2, 1);
        dueMeasures(what -> x.rollup(1, 1, 0, what), 2, 1, 0, 2, 10, 2, 5, 7, 5, 2, 0);
        MetricStore y = store(COUNTER, 10, 5, 60, 2);
        y.image();
        y.define(0, COUNTER);
        append(y, 0, 100, 5, 101, 6);
        y.undo();
        dueMeasures(what -> y.rollup(0, 0, 1, what), 1, 0, 1, 0, 0, 2, 2, 2, 2, 2, 5);
        dueWholeSnapshot();
    }

    /** As much as a series can hold: 64 samples, 40 rollups of either resolution, 7 counts. */
    private static void dueWholeSnapshot() {
        MetricStore x = histogram("1,2,3,4,5,6");
        x.parameter(0, 60);
        for (int i = 1; i <= 64; i++) {
            observe(x, 0, i, 1, 7);
            x.scrape(0, 60 * i);
        }
        due(x.image(), 64);
        x.define(0, GAUGE);
        appendEach(x, 0, 1, 72);
        due(x.undo(), 64);
        due(x.series(0, 2), 8);
        dueEach(40, what -> x.series(0, what), 5, 6);
        dueMeasures(what -> x.sample(0, 63, what), 3840, 2080 * 2, 1, 128, 60);
        dueMeasures(k -> x.sample(0, 63, 10 + k), 2080, 0, 0, 0, 0, 0, 2080, NO);
        dueMeasures(k -> x.bucket(0, 0, 3840, k), 2079, 0, 0, 0, 0, 0, 2079, NO);
        dueMeasures(what -> x.rollup(0, 1, 39, what), 1, 0, 0, 128, 60, 4160, 4160, 4160, 4160, 4160, 63);
        due(x.rollup(0, 0, 0, 10), 24 * 6 + 5);
        due(x.rollup(0, 1, 0, 10), 24);
        due(x.scrape(0, 3841), 57);
    }
}
