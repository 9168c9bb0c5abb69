public final class MetricStore {
    public static final int NONE = -1, BAD = -2, STATE = -3, FULL = -4;
    public static final long NO = Long.MIN_VALUE;

    private static final int UNDEFINED = -5, COUNTER = 0, GAUGE = 1, HISTOGRAM = 2;
    private static final int NO_PAIR = 0, PLAIN = 1, RESET = 2, GAP = 3;
    private static final int SERIES = 8, RESOLUTIONS = 2, ROWS = 4, MEASURES = 10;
    private static final int BOUNDS = 6, BUCKETS = 7, GREATEST_BOUND = 9999;
    private static final int BLOCK = 8, MOST_BLOCKS = 8, MOST_ROLLUPS = 40;
    // One block more than is ever kept, so that a sample is added before the oldest block goes.
    private static final int SLOTS = BLOCK * (MOST_BLOCKS + 1);
    private static final int LATEST = 999999, MOST_OBSERVED = 999999, MOST_AT_ONCE = 99;
    private static final int MOST_GAP = 9999, FIRST_GAP = 30, LAST_FUSED = 16666;
    private static final int TAPE = 60, MOST_SIGN = 127, WRONG_TEXT = -100;
    private static final int DIGITS = 6, MOST_OPEN = 6, FUNCTIONS = 8, END = -1;
    // The shortest call of a function has 8 bytes.
    private static final int MOST_STEPS = TAPE / 8;
    private static final int NUMBER = 0, NEGATE = 1, ADD = 2, SUBTRACT = 3, MULTIPLY = 4, DIVIDE = 5, CALL = 6;
    private static final long GREATEST_POWER = 1000000000000000000L;

    private final Series[] live = new Series[SERIES];
    private final Series[] saved = new Series[SERIES];
    private final Row[] rows = new Row[ROWS];
    private final Tape tape = new Tape();
    private final Formula formula = new Formula();
    private final Evaluation evaluation = new Evaluation();
    private final Merge merge = new Merge();
    private final Measures bySamples = new Measures();
    private final Measures byRollups = new Measures();
    private int gap = FIRST_GAP;
    private int retention = MOST_BLOCKS;
    private int savedGap;
    private int savedRetention;
    private boolean imaged;

    public MetricStore() {
        for (int i = 0; i < SERIES; i++) {
            live[i] = new Series();
            saved[i] = new Series();
        }
        for (int i = 0; i < ROWS; i++) {
            rows[i] = new Row();
        }
    }

    public int define(int series, int kind) {
        if (!isSeries(series)) {
            return NONE;
        }
        if (kind != COUNTER && kind != GAUGE) {
            return BAD;
        }
        int before = live[series].kind;
        live[series].begin(kind);
        return before;
    }

    public int feed(int sign) {
        if (sign < 0 || sign > MOST_SIGN) {
            return BAD;
        }
        return tape.put(sign) ? tape.length : FULL;
    }

    public int histogram(int series) {
        if (!isSeries(series)) {
            return NONE;
        }
        boolean right = tape.readBounds();
        tape.length = 0;
        if (!right) {
            return WRONG_TEXT - tape.at;
        }
        if (!tape.boundsFit()) {
            return BAD;
        }
        live[series].beginHistogram(tape.bounds, tape.boundCount);
        return tape.boundCount;
    }

    public int append(int series, int time, int v) {
        if (!isSeries(series)) {
            return NONE;
        }
        Series to = live[series];
        if (to.kind != COUNTER && to.kind != GAUGE) {
            return STATE;
        }
        if (!isTime(time) || time <= to.latest() || to.kind == COUNTER && v < 0) {
            return BAD;
        }
        to.addSample(time, v, gap, retention);
        return to.kept;
    }

    public int observe(int series, int v, int n) {
        if (!isSeries(series)) {
            return NONE;
        }
        Series at = live[series];
        if (at.kind != HISTOGRAM) {
            return STATE;
        }
        if (v < 0 || n < 1 || n > MOST_AT_ONCE) {
            return BAD;
        }
        if (at.presentSum() + n > MOST_OBSERVED) {
            return FULL;
        }
        int k = at.bucketOf(v);
        at.present[k] += n;
        return k;
    }

    public int scrape(int series, int time) {
        if (!isSeries(series)) {
            return NONE;
        }
        Series to = live[series];
        if (to.kind != HISTOGRAM) {
            return STATE;
        }
        if (!isTime(time) || time <= to.latest()) {
            return BAD;
        }
        to.addSample(time, to.presentSum(), gap, retention);
        return to.kept;
    }

    public int restart(int series) {
        if (!isSeries(series)) {
            return NONE;
        }
        Series at = live[series];
        if (at.kind != HISTOGRAM) {
            return STATE;
        }
        int before = at.presentSum();
        at.emptyPresent();
        return before;
    }

    public int parameter(int what, int v) {
        if (what != 0 && what != 1) {
            return NONE;
        }
        if (v < 1 || v > (what == 0 ? MOST_GAP : MOST_BLOCKS)) {
            return BAD;
        }
        int before = what == 0 ? gap : retention;
        if (what == 0) {
            gap = v;
        } else {
            retention = v;
            for (int i = 0; i < SERIES; i++) {
                live[i].dropBeyond(v);
            }
        }
        return before;
    }

    public int series(int series, int what) {
        if (!isSeries(series)) {
            return NONE;
        }
        Series of = live[series];
        switch (what) {
            case 0: return of.kind;
            case 1: return of.kept;
            case 2: return of.blocks();
            case 3: return of.kept + of.dropped;
            case 4: return of.kept > 0 ? of.latest() : UNDEFINED;
            case 5: return of.rollups[0].size;
            case 6: return of.rollups[1].size;
            case 7: return of.boundCount;
            default: break;
        }
        if (what >= 10 && what < 10 + of.boundCount) {
            return of.bounds[what - 10];
        }
        if (what >= 20 && what < 20 + of.bucketCount()) {
            return of.present[what - 20];
        }
        return NONE;
    }

    public long sample(int series, int i, int what) {
        if (!isSeries(series)) {
            return NO;
        }
        Series of = live[series];
        if (i < 0 || i >= of.kept) {
            return NO;
        }
        Sample asked = of.samples[i];
        switch (what) {
            case 0: return asked.time;
            case 1: return asked.value;
            case 2: return asked.belongs;
            case 3: return asked.change;
            case 4: return asked.covered;
            default: break;
        }
        if (what >= 10 && what < 10 + of.bucketCount()) {
            return asked.counts[what - 10];
        }
        return NO;
    }

    public long window(int series, int a, int b, int what) {
        if (!isDefined(series) || a > b) {
            return NO;
        }
        live[series].measure(a, b, bySamples);
        return bySamples.measure(what);
    }

    public long rolled(int series, int resolution, int a, int b, int what) {
        if (!canRoll(series, resolution, a, b)) {
            return NO;
        }
        live[series].rollups[resolution].measure(a, b, byRollups);
        return byRollups.measure(what);
    }

    public int differs(int series, int resolution, int a, int b) {
        if (!canRoll(series, resolution, a, b)) {
            return NONE;
        }
        live[series].measure(a, b, bySamples);
        live[series].rollups[resolution].measure(a, b, byRollups);
        int set = 0;
        for (int k = 0; k < MEASURES; k++) {
            if (bySamples.measure(k) != byRollups.measure(k)) {
                set |= 1 << k;
            }
        }
        return set;
    }

    public long rollup(int series, int resolution, int i, int what) {
        if (!isSeries(series) || !isResolution(resolution)) {
            return NO;
        }
        Rollups of = live[series].rollups[resolution];
        if (i < 0 || i >= of.size) {
            return NO;
        }
        return what == MEASURES ? of.numbers[i] : of.measures[i].measure(what);
    }

    public long fused(int series, int k, int what) {
        if (!isDefined(series) || k < 0 || k > LAST_FUSED) {
            return NO;
        }
        int step = stepOf(1);
        live[series].rollups[0].measure(k * step, (k + 1) * step, byRollups);
        return byRollups.measure(what);
    }

    public int rateBits(int series, int a, int b) {
        if (!isDefined(series) || a > b) {
            return NONE;
        }
        live[series].measure(a, b, bySamples);
        if (bySamples.covered == 0) {
            return NONE;
        }
        double rate = (double) bySamples.change / (double) bySamples.covered;
        return bitsOf(rate, rate < 0);
    }

    public long bucket(int series, int a, int b, int k) {
        if (!isSeries(series) || a > b) {
            return NO;
        }
        Series of = live[series];
        if (k < 0 || k >= of.bucketCount()) {
            return NO;
        }
        return of.bucketChange(of.keptUpTo(a), of.keptUpTo(b), k);
    }

    public long merged(int set, int a, int b, int what) {
        if (!areHistograms(set) || a > b) {
            return NO;
        }
        merge.make(live, set, a, b);
        if (what == 0) {
            return merge.boundCount;
        }
        if (what == 1) {
            return merge.total;
        }
        if (what >= 10 && what < 10 + merge.boundCount) {
            return merge.bounds[what - 10];
        }
        if (what >= 20 && what <= 20 + merge.boundCount) {
            return merge.buckets[what - 20];
        }
        return NO;
    }

    public long quantile(int set, int a, int b, int q, int part) {
        if (!areHistograms(set) || a > b || q < 1 || q > 100 || part < 0 || part > 1) {
            return NO;
        }
        merge.make(live, set, a, b);
        if (merge.boundCount == 0 || merge.total == 0) {
            return NO;
        }
        merge.findQuantile(q);
        return part == 0 ? merge.numerator : merge.denominator;
    }

    public int ask(int time) {
        if (!isTime(time)) {
            return BAD;
        }
        boolean right = formula.read(tape);
        tape.length = 0;
        if (!right) {
            return WRONG_TEXT - tape.at;
        }
        evaluation.run(formula, live, time);
        return evaluation.hasValue ? 1 : 0;
    }

    public int answerBits() {
        if (!evaluation.hasValue) {
            return STATE;
        }
        return bitsOf(evaluation.value, evaluation.minus);
    }

    public int step(int i, int what) {
        if (i < 0 || i >= evaluation.steps) {
            return NONE;
        }
        Step of = evaluation.taken[i];
        switch (what) {
            case 0: return of.function;
            case 1: return of.series;
            case 2: return of.width;
            case 3: return of.hasValue ? 1 : 0;
            case 4: return of.hasValue ? bitsOf(of.value, of.value < 0) : UNDEFINED;
            default: return NONE;
        }
    }

    public int explained(int i, int k) {
        if (i < 0 || i >= evaluation.steps) {
            return NONE;
        }
        evaluation.explain(i);
        if (k == -1) {
            return evaluation.text.length();
        }
        if (k < 0 || k >= evaluation.text.length()) {
            return NONE;
        }
        return evaluation.text.charAt(k);
    }

    public int store(int row, int series, int resolution, int what, int exact) {
        if (!isRow(row) || !isDefined(series) || !isResolution(resolution) || what < 0 || what >= MEASURES) {
            return NONE;
        }
        if (exact != 0 && exact != 1) {
            return BAD;
        }
        Rollups from = live[series].rollups[resolution];
        if (from.size == 0) {
            return STATE;
        }
        rows[row].fill(from, what, exact == 0);
        return rows[row].length;
    }

    public int copy(int from, int to, int n) {
        if (!isRow(from) || !isRow(to)) {
            return NONE;
        }
        Row source = rows[from];
        Row target = rows[to];
        if (source.length == 0 || target.length == 0) {
            return STATE;
        }
        if (n < 0 || n > source.length || n > target.length) {
            return BAD;
        }
        if (n > 0 && source.floats != target.floats) {
            return FULL;
        }
        return target.takeFirst(source, n);
    }

    public int again(int from, int to) {
        if (!isRow(from) || !isRow(to)) {
            return NONE;
        }
        if (rows[from].length == 0) {
            return STATE;
        }
        rows[to].become(rows[from]);
        return rows[to].length;
    }

    public long element(int row, int i) {
        if (!isRow(row) || i < 0 || i >= rows[row].length) {
            return NO;
        }
        return rows[row].elements[i];
    }

    public int image() {
        for (int i = 0; i < SERIES; i++) {
            saved[i].become(live[i]);
        }
        savedGap = gap;
        savedRetention = retention;
        imaged = true;
        return allKept();
    }

    public int undo() {
        if (!imaged) {
            return STATE;
        }
        for (int i = 0; i < SERIES; i++) {
            live[i].become(saved[i]);
        }
        gap = savedGap;
        retention = savedRetention;
        return allKept();
    }

    public int count(int what) {
        switch (what) {
            case 0: return definedSeries();
            case 1: return allKept();
            case 2: return allDropped();
            case 3: return tape.length;
            case 4: return evaluation.steps;
            case 5: return presentRows();
            case 6: return gap;
            case 7: return retention;
            case 8: return allBelongingTo(RESET);
            case 9: return allBelongingTo(GAP);
            default: return NONE;
        }
    }

    private static boolean isSeries(int number) {
        return number >= 0 && number < SERIES;
    }

    private static boolean isResolution(int number) {
        return number >= 0 && number < RESOLUTIONS;
    }

    private static boolean isRow(int number) {
        return number >= 0 && number < ROWS;
    }

    private static boolean isTime(int time) {
        return time >= 1 && time <= LATEST;
    }

    private boolean isDefined(int number) {
        return isSeries(number) && live[number].kind != UNDEFINED;
    }

    private boolean canRoll(int number, int resolution, int a, int b) {
        if (!isDefined(number) || !isResolution(resolution) || a > b) {
            return false;
        }
        int step = stepOf(resolution);
        return a % step == 0 && b % step == 0;
    }

    private static int stepOf(int resolution) {
        return resolution == 0 ? 10 : 60;
    }

    private boolean areHistograms(int set) {
        if (set <= 0 || set >= 1 << SERIES) {
            return false;
        }
        for (int i = 0; i < SERIES; i++) {
            if (isIn(set, i) && live[i].kind != HISTOGRAM) {
                return false;
            }
        }
        return true;
    }

    private static boolean isIn(int set, int i) {
        return (set >> i & 1) == 1;
    }

    private int definedSeries() {
        int defined = 0;
        for (int i = 0; i < SERIES; i++) {
            if (isDefined(i)) {
                defined++;
            }
        }
        return defined;
    }

    private int allKept() {
        int kept = 0;
        for (int i = 0; i < SERIES; i++) {
            kept += live[i].kept;
        }
        return kept;
    }

    private int allDropped() {
        int dropped = 0;
        for (int i = 0; i < SERIES; i++) {
            dropped += live[i].dropped;
        }
        return dropped;
    }

    private int allBelongingTo(int pair) {
        int found = 0;
        for (int i = 0; i < SERIES; i++) {
            found += live[i].belongingTo(pair);
        }
        return found;
    }

    private int presentRows() {
        int present = 0;
        for (int i = 0; i < ROWS; i++) {
            if (rows[i].length > 0) {
                present++;
            }
        }
        return present;
    }

    // The sign comes as an argument because no comparison tells -0 from 0.
    private static int bitsOf(double value, boolean minus) {
        float narrow = (float) value;
        double size = narrow < 0 ? -narrow : narrow;
        int exponent = 127;
        for (int i = 0; i < 127 && size >= 2; i++) {
            size = size / 2;
            exponent++;
        }
        for (int i = 0; i < 126 && size < 1; i++) {
            size = size * 2;
            exponent--;
        }
        int bits;
        if (size >= 2) {
            bits = 255 << 23;
        } else if (size < 1) {
            bits = (int) (size * 8388608);
        } else {
            bits = (exponent << 23) + (int) ((size - 1) * 8388608);
        }
        return minus ? bits | 1 << 31 : bits;
    }

    /** The ten measures of a window or of a rollup. */
    private static final class Measures {
        private long samples;
        private long resets;
        private long gaps;
        private long change;
        private long covered;
        private long least;
        private long greatest;
        private long sum;
        private long first;
        private long last;

        private void empty() {
            samples = 0;
            resets = 0;
            gaps = 0;
            change = 0;
            covered = 0;
            sum = 0;
        }

        private void add(Sample added) {
            long value = added.value;
            takeValues(value, value, value, value);
            samples++;
            resets += added.belongs == RESET ? 1 : 0;
            gaps += added.belongs == GAP ? 1 : 0;
            change += added.change;
            covered += added.covered;
            sum += value;
        }

        private void join(Measures later) {
            if (later.samples == 0) {
                return;
            }
            takeValues(later.least, later.greatest, later.first, later.last);
            samples += later.samples;
            resets += later.resets;
            gaps += later.gaps;
            change += later.change;
            covered += later.covered;
            sum += later.sum;
        }

        // To be called before the samples are counted: only then is it known which are the first.
        private void takeValues(long low, long high, long from, long to) {
            boolean none = samples == 0;
            least = none || low < least ? low : least;
            greatest = none || high > greatest ? high : greatest;
            first = none ? from : first;
            last = to;
        }

        private long measure(int what) {
            switch (what) {
                case 0: return samples;
                case 1: return resets;
                case 2: return gaps;
                case 3: return change;
                case 4: return covered;
                case 5: return samples > 0 ? least : NO;
                case 6: return samples > 0 ? greatest : NO;
                case 7: return sum;
                case 8: return samples > 0 ? first : NO;
                case 9: return samples > 0 ? last : NO;
                default: return NO;
            }
        }

        private void become(Measures other) {
            samples = other.samples;
            resets = other.resets;
            gaps = other.gaps;
            change = other.change;
            covered = other.covered;
            least = other.least;
            greatest = other.greatest;
            sum = other.sum;
            first = other.first;
            last = other.last;
        }
    }

    /** A sample and what its pair has fixed for good. */
    private static final class Sample {
        private final int[] counts = new int[BUCKETS];
        private final int[] countChanges = new int[BUCKETS];
        private int time;
        private int value;
        private int belongs;
        private int covered;
        private long change;

        private void begin(int at, int v, int[] present) {
            time = at;
            value = v;
            belongs = NO_PAIR;
            covered = 0;
            change = 0;
            for (int k = 0; k < BUCKETS && k < present.length; k++) {
                counts[k] = present[k];
                countChanges[k] = 0;
            }
        }

        private void pairWith(Sample earlier, int gap, boolean mayReset) {
            int between = time - earlier.time;
            if (between > gap) {
                belongs = GAP;
                return;
            }
            boolean reset = mayReset && value < earlier.value;
            belongs = reset ? RESET : PLAIN;
            covered = between;
            change = reset ? value : (long) value - (long) earlier.value;
            for (int k = 0; k < BUCKETS; k++) {
                countChanges[k] = reset ? counts[k] : Math.max(0, counts[k] - earlier.counts[k]);
            }
        }

        private void become(Sample other) {
            time = other.time;
            value = other.value;
            belongs = other.belongs;
            covered = other.covered;
            change = other.change;
            System.arraycopy(other.counts, 0, counts, 0, BUCKETS);
            System.arraycopy(other.countChanges, 0, countChanges, 0, BUCKETS);
        }
    }

    /** The kept rollups of one resolution, the earliest one first. */
    private static final class Rollups {
        private final Measures[] measures = new Measures[MOST_ROLLUPS];
        private final int[] numbers = new int[MOST_ROLLUPS];
        private final int step;
        private int size;

        private Rollups(int step) {
            this.step = step;
            for (int i = 0; i < MOST_ROLLUPS; i++) {
                measures[i] = new Measures();
            }
        }

        private void add(Sample added) {
            int number = (added.time - 1) / step;
            if (size == 0 || numbers[size - 1] != number) {
                open(number);
            }
            measures[size - 1].add(added);
        }

        private void open(int number) {
            if (size == MOST_ROLLUPS) {
                dropFirst();
            }
            numbers[size] = number;
            measures[size].empty();
            size++;
        }

        // The dropped object goes to the end, to be used again.
        private void dropFirst() {
            Measures dropped = measures[0];
            for (int i = 1; i < MOST_ROLLUPS; i++) {
                measures[i - 1] = measures[i];
                numbers[i - 1] = numbers[i];
            }
            measures[MOST_ROLLUPS - 1] = dropped;
            size--;
        }

        private void measure(int a, int b, Measures into) {
            into.empty();
            for (int i = 0; i < size; i++) {
                int from = numbers[i] * step;
                if (from >= a && from + step <= b) {
                    into.join(measures[i]);
                }
            }
        }

        private void become(Rollups other) {
            size = other.size;
            for (int i = 0; i < size; i++) {
                numbers[i] = other.numbers[i];
                measures[i].become(other.measures[i]);
            }
        }
    }

    /** A series with its kept samples, the earliest one first. */
    private static final class Series {
        private final int[] bounds = new int[BOUNDS];
        private final int[] present = new int[BUCKETS];
        private final Sample[] samples = new Sample[SLOTS];
        private final Rollups[] rollups = new Rollups[RESOLUTIONS];
        private int kind = UNDEFINED;
        private int boundCount;
        private int kept;
        private int dropped;

        private Series() {
            for (int i = 0; i < SLOTS; i++) {
                samples[i] = new Sample();
            }
            for (int i = 0; i < RESOLUTIONS; i++) {
                rollups[i] = new Rollups(stepOf(i));
            }
        }

        private void begin(int newKind) {
            kind = newKind;
            boundCount = 0;
            kept = 0;
            dropped = 0;
            emptyPresent();
            for (int i = 0; i < RESOLUTIONS; i++) {
                rollups[i].size = 0;
            }
        }

        private void beginHistogram(int[] newBounds, int n) {
            begin(HISTOGRAM);
            for (int k = 0; k < n && k < BOUNDS; k++) {
                bounds[k] = newBounds[k];
                boundCount++;
            }
        }

        private int bucketCount() {
            return kind == HISTOGRAM ? boundCount + 1 : 0;
        }

        private int bucketOf(int v) {
            for (int k = 0; k < boundCount; k++) {
                if (v <= bounds[k]) {
                    return k;
                }
            }
            return boundCount;
        }

        private int presentSum() {
            int sum = 0;
            for (int k = 0; k < BUCKETS; k++) {
                sum += present[k];
            }
            return sum;
        }

        private void emptyPresent() {
            for (int k = 0; k < BUCKETS; k++) {
                present[k] = 0;
            }
        }

        // The latest sample is always kept: the retention is at least one block.
        private int latest() {
            return kept > 0 ? samples[kept - 1].time : 0;
        }

        private int blocks() {
            return (kept + BLOCK - 1) / BLOCK;
        }

        private void addSample(int time, int value, int gap, int retention) {
            if (kept >= SLOTS) {
                return;
            }
            Sample added = samples[kept];
            added.begin(time, value, present);
            if (kept > 0) {
                added.pairWith(samples[kept - 1], gap, kind != GAUGE);
            }
            kept++;
            for (int i = 0; i < RESOLUTIONS; i++) {
                rollups[i].add(added);
            }
            dropBeyond(retention);
        }

        // Objects are swapped, not made anew: the dropped ones stand behind the kept ones.
        private void dropBeyond(int retention) {
            int beyond = (blocks() - retention) * BLOCK;
            if (beyond <= 0) {
                return;
            }
            for (int i = 0; i + beyond < kept; i++) {
                Sample moved = samples[i + beyond];
                samples[i + beyond] = samples[i];
                samples[i] = moved;
            }
            kept -= beyond;
            dropped += beyond;
        }

        private int keptUpTo(int time) {
            int i = 0;
            while (i < kept && samples[i].time <= time) {
                i++;
            }
            return i;
        }

        private void measure(int a, int b, Measures into) {
            into.empty();
            int end = keptUpTo(b);
            for (int i = keptUpTo(a); i < end; i++) {
                into.add(samples[i]);
            }
        }

        private long bucketChange(int from, int end, int k) {
            long sum = 0;
            for (int i = from; i < end && i < kept; i++) {
                sum += samples[i].countChanges[k];
            }
            return sum;
        }

        private int belongingTo(int pair) {
            int found = 0;
            for (int i = 0; i < kept; i++) {
                if (samples[i].belongs == pair) {
                    found++;
                }
            }
            return found;
        }

        private boolean hasBound(int bound) {
            for (int k = 0; k < boundCount; k++) {
                if (bounds[k] == bound) {
                    return true;
                }
            }
            return false;
        }

        private void become(Series other) {
            kind = other.kind;
            boundCount = other.boundCount;
            kept = other.kept;
            dropped = other.dropped;
            System.arraycopy(other.bounds, 0, bounds, 0, BOUNDS);
            System.arraycopy(other.present, 0, present, 0, BUCKETS);
            for (int i = 0; i < kept; i++) {
                samples[i].become(other.samples[i]);
            }
            for (int i = 0; i < RESOLUTIONS; i++) {
                rollups[i].become(other.rollups[i]);
            }
        }
    }

    /** The merge of some histograms for a window, and its quantiles. */
    private static final class Merge {
        private final int[] bounds = new int[BOUNDS];
        private final long[] buckets = new long[BUCKETS];
        private int boundCount;
        private long total;
        private long numerator;
        private long denominator;

        private void make(Series[] all, int set, int a, int b) {
            findBounds(all, set);
            total = 0;
            for (int k = 0; k < BUCKETS; k++) {
                buckets[k] = 0;
            }
            for (int i = 0; i < SERIES && i < all.length; i++) {
                if (isIn(set, i)) {
                    addChanges(all[i], a, b);
                }
            }
        }

        private void findBounds(Series[] all, int set) {
            boundCount = 0;
            boolean begun = false;
            for (int i = 0; i < SERIES && i < all.length; i++) {
                if (isIn(set, i) && begun) {
                    keepBoundsOf(all[i]);
                } else if (isIn(set, i)) {
                    takeBoundsOf(all[i]);
                    begun = true;
                }
            }
        }

        private void takeBoundsOf(Series one) {
            boundCount = one.boundCount;
            System.arraycopy(one.bounds, 0, bounds, 0, BOUNDS);
        }

        private void keepBoundsOf(Series one) {
            int common = 0;
            for (int k = 0; k < boundCount; k++) {
                if (one.hasBound(bounds[k])) {
                    bounds[common] = bounds[k];
                    common++;
                }
            }
            boundCount = common;
        }

        // Every bound of the merge is a bound of each series, so a bucket of a series lies whole in one of the merge.
        private void addChanges(Series one, int a, int b) {
            int from = one.keptUpTo(a);
            int end = one.keptUpTo(b);
            int into = 0;
            for (int k = 0; k < one.bucketCount(); k++) {
                long change = one.bucketChange(from, end, k);
                buckets[into] += change;
                total += change;
                if (into < boundCount && k < one.boundCount && one.bounds[k] == bounds[into]) {
                    into++;
                }
            }
        }

        private void findQuantile(int q) {
            long rank = (q * total + 99) / 100;
            long before = 0;
            int k = 0;
            while (k < boundCount && before + buckets[k] < rank) {
                before += buckets[k];
                k++;
            }
            if (k < boundCount) {
                long lower = k > 0 ? bounds[k - 1] : 0;
                long inside = (bounds[k] - lower) * (rank - before);
                reduce(lower * buckets[k] + inside, buckets[k]);
            } else {
                reduce(boundCount > 0 ? bounds[boundCount - 1] : 0, 1);
            }
        }

        private void reduce(long above, long below) {
            long common = commonDivisor(above, below);
            numerator = common > 0 ? above / common : above;
            denominator = common > 0 ? below / common : below;
        }

        private static long commonDivisor(long one, long other) {
            long a = one;
            long b = other;
            for (int i = 0; i < 1000 && b != 0; i++) {
                long rest = a % b;
                a = b;
                b = rest;
            }
            return a;
        }
    }

    /** The tape, read from its beginning; where reading failed is the error position. */
    private static final class Tape {
        private final int[] signs = new int[TAPE];
        private final int[] bounds = new int[BOUNDS];
        private int length;
        private int at;
        private int now;
        private int boundCount;

        private boolean put(int sign) {
            if (length >= TAPE) {
                return false;
            }
            signs[length] = sign;
            length++;
            return true;
        }

        private void goTo(int position) {
            at = position;
            now = position >= 0 && position < length && position < TAPE ? signs[position] : END;
        }

        private boolean take(int sign) {
            if (now != sign) {
                return false;
            }
            goTo(at + 1);
            return true;
        }

        private int readSeries() {
            int number = now - '0';
            if (!isSeries(number)) {
                return NONE;
            }
            goTo(at + 1);
            return number;
        }

        // No digit may follow a leading 0, so that reading ends behind it.
        private int readNumber() {
            int number = NONE;
            for (int i = 0; i < DIGITS && number != 0 && now >= '0' && now <= '9'; i++) {
                number = (i > 0 ? number * 10 : 0) + now - '0';
                goTo(at + 1);
            }
            return number;
        }

        private boolean readBounds() {
            goTo(0);
            boundCount = 0;
            for (int k = 0; k < BOUNDS; k++) {
                int bound = readNumber();
                if (bound == NONE) {
                    return false;
                }
                bounds[k] = bound;
                boundCount++;
                if (at == length) {
                    return true;
                }
                if (!take(',')) {
                    return false;
                }
            }
            return false;
        }

        private boolean boundsFit() {
            int before = 0;
            for (int k = 0; k < boundCount; k++) {
                if (bounds[k] <= before || bounds[k] > GREATEST_BOUND) {
                    return false;
                }
                before = bounds[k];
            }
            return true;
        }
    }

    /** A formula read from the tape, as operations that take their operands from a stack. */
    private static final class Formula {
        private final int[] operations = new int[TAPE];
        private final int[] numbers = new int[TAPE];
        private final int[] subjects = new int[TAPE];
        private int size;

        private boolean read(Tape tape) {
            tape.goTo(0);
            size = 0;
            return readSum(tape, 0) && tape.at == tape.length;
        }

        private void emit(int operation, int number, int subject) {
            if (size >= TAPE) {
                return;
            }
            operations[size] = operation;
            numbers[size] = number;
            subjects[size] = subject;
            size++;
        }

        private boolean readSum(Tape tape, int open) {
            boolean right = readProduct(tape, open);
            for (int i = 0; i < TAPE && right && (tape.now == '+' || tape.now == '-'); i++) {
                int operation = tape.now == '+' ? ADD : SUBTRACT;
                tape.goTo(tape.at + 1);
                right = readProduct(tape, open);
                emit(operation, 0, 0);
            }
            return right;
        }

        private boolean readProduct(Tape tape, int open) {
            boolean right = readFactor(tape, open);
            for (int i = 0; i < TAPE && right && (tape.now == '*' || tape.now == '/'); i++) {
                int operation = tape.now == '*' ? MULTIPLY : DIVIDE;
                tape.goTo(tape.at + 1);
                right = readFactor(tape, open);
                emit(operation, 0, 0);
            }
            return right;
        }

        private boolean readFactor(Tape tape, int open) {
            int number = tape.readNumber();
            if (number != NONE) {
                emit(NUMBER, number, 0);
                return true;
            }
            // Whatever begins here opens something, a function its parenthesis: its first byte is wrong already.
            if (open >= MOST_OPEN) {
                return false;
            }
            if (tape.take('-')) {
                boolean right = readFactor(tape, open + 1);
                emit(NEGATE, 0, 0);
                return right;
            }
            if (tape.take('(')) {
                return readSum(tape, open + 1) && tape.take(')');
            }
            int function = readName(tape);
            return function != NONE && readArguments(tape, function);
        }

        private boolean readArguments(Tape tape, int function) {
            int subject = tape.take('(') ? tape.readSeries() : NONE;
            if (subject == NONE || !tape.take(',')) {
                return false;
            }
            int width = tape.readNumber();
            if (width == NONE || !tape.take(')')) {
                return false;
            }
            emit(CALL + function, width, subject);
            return true;
        }

        // If there is no name, the tape is left where the longest beginning of one ends.
        private static int readName(Tape tape) {
            int from = tape.at;
            int longest = from;
            for (int f = 0; f < FUNCTIONS; f++) {
                String name = nameOf(f);
                tape.goTo(from);
                int i = 0;
                while (i < name.length() && tape.take(name.charAt(i))) {
                    i++;
                }
                if (i == name.length()) {
                    return f;
                }
                longest = Math.max(longest, tape.at);
            }
            tape.goTo(longest);
            return NONE;
        }

        private static String nameOf(int function) {
            switch (function) {
                case 0: return "rate";
                case 1: return "inc";
                case 2: return "avg";
                case 3: return "min";
                case 4: return "max";
                case 5: return "sum";
                case 6: return "count";
                default: return "last";
            }
        }

        private static int measureOf(int function) {
            switch (function) {
                case 0: return 3;
                case 1: return 3;
                case 2: return 7;
                case 3: return 5;
                case 4: return 6;
                case 5: return 7;
                case 6: return 0;
                default: return 9;
            }
        }

        private static int divisorOf(int function) {
            switch (function) {
                case 0: return 4;
                case 2: return 0;
                default: return NONE;
            }
        }
    }

    /** A function that was evaluated. */
    private static final class Step {
        private int function;
        private int series;
        private int width;
        private boolean hasValue;
        private double value;

        private void begin(int newFunction, int newSeries, int newWidth) {
            function = newFunction;
            series = newSeries;
            width = newWidth;
            hasValue = false;
            value = 0;
        }
    }

    /** The latest evaluation, its steps and the explanation of one of them. */
    private static final class Evaluation {
        private final Step[] taken = new Step[MOST_STEPS];
        private final double[] stack = new double[TAPE];
        private final boolean[] minuses = new boolean[TAPE];
        private final Measures measures = new Measures();
        private final StringBuilder text = new StringBuilder();
        private int steps;
        private int height;
        private boolean hasValue;
        private boolean minus;
        private double value;

        private Evaluation() {
            for (int i = 0; i < MOST_STEPS; i++) {
                taken[i] = new Step();
            }
        }

        private void run(Formula formula, Series[] all, int time) {
            steps = 0;
            height = 0;
            hasValue = false;
            for (int i = 0; i < formula.size; i++) {
                if (!perform(formula, i, all, time)) {
                    return;
                }
            }
            if (height == 1) {
                hasValue = true;
                value = stack[0];
                minus = minuses[0];
            }
        }

        private boolean perform(Formula formula, int i, Series[] all, int time) {
            int operation = formula.operations[i];
            if (operation == NUMBER) {
                return push(formula.numbers[i]);
            }
            if (operation == NEGATE) {
                return negate();
            }
            if (operation < CALL) {
                return combine(operation);
            }
            int subject = formula.subjects[i];
            if (steps >= MOST_STEPS || subject < 0 || subject >= all.length) {
                return false;
            }
            Step step = taken[steps];
            steps++;
            step.begin(operation - CALL, subject, formula.numbers[i]);
            return call(step, all[subject], time) && push(step.value);
        }

        private boolean call(Step step, Series of, int time) {
            if (of.kind == UNDEFINED) {
                return false;
            }
            of.measure(time - step.width, time, measures);
            long measure = measures.measure(Formula.measureOf(step.function));
            if (measure == NO) {
                return false;
            }
            step.value = (double) measure;
            int divisor = Formula.divisorOf(step.function);
            if (divisor != NONE) {
                long by = measures.measure(divisor);
                if (by == 0) {
                    return false;
                }
                step.value = (double) measure / (double) by;
            }
            step.hasValue = true;
            return true;
        }

        private boolean push(double pushed) {
            if (height >= TAPE) {
                return false;
            }
            stack[height] = pushed;
            minuses[height] = pushed < 0;
            height++;
            return true;
        }

        private boolean negate() {
            if (height < 1) {
                return false;
            }
            stack[height - 1] = -stack[height - 1];
            minuses[height - 1] = !minuses[height - 1];
            return true;
        }

        private boolean combine(int operation) {
            if (height < 2) {
                return false;
            }
            double left = stack[height - 2];
            double right = stack[height - 1];
            if (operation == DIVIDE && right == 0) {
                return false;
            }
            height--;
            stack[height - 1] = compute(operation, left, right);
            minuses[height - 1] = isMinus(operation, stack[height - 1], minuses[height - 1], minuses[height]);
            return true;
        }

        // 60 bytes make no number that a double could not hold: nothing becomes infinite here.
        private static double compute(int operation, double left, double right) {
            switch (operation) {
                case ADD: return left + right;
                case SUBTRACT: return left - right;
                case MULTIPLY: return left * right;
                default: return right == 0 ? 0 : left / right;
            }
        }

        // A result of 0 may be -0, which only the signs of both operands tell.
        private static boolean isMinus(int operation, double result, boolean left, boolean right) {
            if (result != 0) {
                return result < 0;
            }
            switch (operation) {
                case ADD: return left && right;
                case SUBTRACT: return left && !right;
                default: return left != right;
            }
        }

        private void explain(int i) {
            text.setLength(0);
            if (i < 0 || i >= steps) {
                return;
            }
            Step step = taken[i];
            text.append(Formula.nameOf(step.function)).append('(').append(step.series);
            text.append(',').append(step.width).append(')').append('=');
            if (step.hasValue) {
                writeDecimal((long) step.value);
            } else {
                text.append('?');
            }
        }

        private void writeDecimal(long number) {
            if (number < 0) {
                text.append('-');
            }
            boolean begun = false;
            for (long power = GREATEST_POWER; power > 0; power /= 10) {
                int digit = Math.abs((int) (number / power % 10));
                begun = begun || digit > 0 || power == 1;
                if (begun) {
                    text.append((char) ('0' + digit));
                }
            }
        }
    }

    /** A row of ints or of floats, the floats as their bits; missing if it is empty. */
    private static final class Row {
        private final int[] elements = new int[MOST_ROLLUPS];
        private int length;
        private boolean floats;

        private void fill(Rollups from, int what, boolean asFloats) {
            length = from.size;
            floats = asFloats;
            for (int i = 0; i < length; i++) {
                long measure = from.measures[i].measure(what);
                elements[i] = asFloats ? bitsOf((float) measure, measure < 0) : (int) measure;
            }
        }

        private int takeFirst(Row source, int n) {
            int changed = 0;
            for (int i = 0; i < n && i < MOST_ROLLUPS; i++) {
                if (elements[i] != source.elements[i]) {
                    changed++;
                }
                elements[i] = source.elements[i];
            }
            return changed;
        }

        private void become(Row other) {
            length = other.length;
            floats = other.floats;
            System.arraycopy(other.elements, 0, elements, 0, MOST_ROLLUPS);
        }
    }
}
