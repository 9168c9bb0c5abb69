import java.math.BigInteger;
import java.util.ArrayDeque;
import java.util.ArrayList;
import java.util.Arrays;
import java.util.Deque;
import java.util.List;
import java.util.TreeMap;
import java.util.TreeSet;

/**
 * The document, followed to the letter and without a thought of cost: every sample that was ever added is kept, and
 * each answer is worked out anew from them. It is what RandomRunsTest holds the class against.
 */
final class Naive {
    static final int NONE = -1, BAD = -2, STATE = -3, FULL = -4;
    static final long NO = Long.MIN_VALUE;
    private static final String[] NAMES = {"rate", "inc", "avg", "min", "max", "sum", "count", "last"};
    private static final int[] STEPS = {10, 60};

    private static final class Sample {
        int time;
        long value;
        int[] counts = new int[0];
        int belongs;
        long change;
        int cover;
        long[] bucketChanges = new long[0];
    }

    private static final class Series {
        int kind = -5;
        int[] bounds = new int[0];
        int[] present = new int[0];
        /** Never changed in place: a copy of a series may share it. */
        List<Sample> ever = new ArrayList<>();
        int first;

        Series copy() {
            Series other = new Series();
            other.kind = kind;
            other.bounds = bounds.clone();
            other.present = present.clone();
            other.ever = new ArrayList<>(ever);
            other.first = first;
            return other;
        }

        List<Sample> kept() {
            return ever.subList(first, ever.size());
        }
    }

    private static final class Step {
        int function;
        int series;
        int width;
        Double value;
    }

    private static final class NoValue extends RuntimeException {
        private static final long serialVersionUID = 1L;
    }

    private Series[] all = new Series[8];
    private Series[] image;
    private int[] parameters = {30, 8};
    private int[] imageParameters;
    private String tape = "";
    private final Object[] rows = new Object[4];
    private List<Step> steps = new ArrayList<>();
    private Double answer;

    Naive() {
        for (int i = 0; i < 8; i++) {
            all[i] = new Series();
        }
    }

    private static boolean in(int n, int low, int high) {
        return low <= n && n <= high;
    }

    int define(int series, int kind) {
        if (!in(series, 0, 7)) {
            return NONE;
        }
        if (!in(kind, 0, 1)) {
            return BAD;
        }
        int before = all[series].kind;
        all[series] = new Series();
        all[series].kind = kind;
        return before;
    }

    int feed(int sign) {
        if (!in(sign, 0, 127)) {
            return BAD;
        }
        if (tape.length() == 60) {
            return FULL;
        }
        tape += (char) sign;
        return tape.length();
    }

    int histogram(int series) {
        if (!in(series, 0, 7)) {
            return NONE;
        }
        String text = tape;
        tape = "";
        // The longest beginning of the text that can still become right ends where the error is.
        String number = "(0|[1-9][0-9]{0,5})";
        String begun = "(" + number + ",){0,5}" + number + "?|(" + number + ",){6}";
        int good = 0;
        while (good < text.length() && text.substring(0, good + 1).matches(begun)) {
            good++;
        }
        if (!text.matches("(" + number + ",){0,5}" + number)) {
            return -100 - good;
        }
        String[] parts = text.split(",");
        int[] bounds = new int[parts.length];
        for (int i = 0; i < parts.length; i++) {
            bounds[i] = Integer.parseInt(parts[i]);
            if (!in(bounds[i], 1, 9999) || i > 0 && bounds[i] <= bounds[i - 1]) {
                return BAD;
            }
        }
        all[series] = new Series();
        all[series].kind = 2;
        all[series].bounds = bounds;
        all[series].present = new int[bounds.length + 1];
        return bounds.length;
    }

    private int add(Series s, int time, long value, int[] counts) {
        if (!in(time, 1, 999999) || !s.ever.isEmpty() && time <= s.ever.get(s.ever.size() - 1).time) {
            return BAD;
        }
        Sample x = new Sample();
        x.time = time;
        x.value = value;
        x.counts = counts.clone();
        x.bucketChanges = new long[counts.length];
        if (!s.ever.isEmpty()) {
            pair(s.ever.get(s.ever.size() - 1), x, s.kind);
        }
        s.ever.add(x);
        drop(s);
        return s.kept().size();
    }

    private void pair(Sample earlier, Sample later, int kind) {
        if (later.time - earlier.time > parameters[0]) {
            later.belongs = 3;
            return;
        }
        later.cover = later.time - earlier.time;
        boolean reset = kind != 1 && later.value < earlier.value;
        later.belongs = reset ? 2 : 1;
        later.change = reset ? later.value : later.value - earlier.value;
        for (int k = 0; k < later.counts.length; k++) {
            long change = (long) later.counts[k] - earlier.counts[k];
            later.bucketChanges[k] = reset ? later.counts[k] : change < 0 ? 0 : change;
        }
    }

    private void drop(Series s) {
        while ((s.ever.size() + 7) / 8 - s.first / 8 > parameters[1]) {
            s.first += 8;
        }
    }

    int append(int series, int time, int v) {
        if (!in(series, 0, 7)) {
            return NONE;
        }
        Series s = all[series];
        if (!in(s.kind, 0, 1)) {
            return STATE;
        }
        if (s.kind == 0 && v < 0) {
            return BAD;
        }
        return add(s, time, v, new int[0]);
    }

    int observe(int series, int v, int n) {
        if (!in(series, 0, 7)) {
            return NONE;
        }
        Series s = all[series];
        if (s.kind != 2) {
            return STATE;
        }
        if (v < 0 || !in(n, 1, 99)) {
            return BAD;
        }
        if (Arrays.stream(s.present).sum() + n > 999999) {
            return FULL;
        }
        int k = (int) Arrays.stream(s.bounds).filter(bound -> bound < v).count();
        s.present[k] += n;
        return k;
    }

    int scrape(int series, int time) {
        if (!in(series, 0, 7)) {
            return NONE;
        }
        Series s = all[series];
        return s.kind != 2 ? STATE : add(s, time, Arrays.stream(s.present).sum(), s.present);
    }

    int restart(int series) {
        if (!in(series, 0, 7)) {
            return NONE;
        }
        Series s = all[series];
        if (s.kind != 2) {
            return STATE;
        }
        int before = Arrays.stream(s.present).sum();
        Arrays.fill(s.present, 0);
        return before;
    }

    int parameter(int what, int v) {
        if (!in(what, 0, 1)) {
            return NONE;
        }
        if (!in(v, 1, what == 0 ? 9999 : 8)) {
            return BAD;
        }
        int before = parameters[what];
        parameters[what] = v;
        for (Series s : all) {
            drop(s);
        }
        return before;
    }

    int series(int series, int what) {
        if (!in(series, 0, 7)) {
            return NONE;
        }
        Series s = all[series];
        int kept = s.kept().size();
        int[] plain = {
            s.kind, kept, (kept + 7) / 8, s.ever.size(), s.ever.isEmpty() ? -5 : s.ever.get(s.ever.size() - 1).time,
            rollups(s, 0).size(), rollups(s, 1).size(), s.bounds.length,
        };
        if (in(what, 0, 7)) {
            return plain[what];
        }
        if (in(what, 10, 9 + s.bounds.length)) {
            return s.bounds[what - 10];
        }
        return in(what, 20, 19 + s.present.length) ? s.present[what - 20] : NONE;
    }

    long sample(int series, int i, int what) {
        if (!in(series, 0, 7) || !in(i, 0, all[series].kept().size() - 1)) {
            return NO;
        }
        Sample x = all[series].kept().get(i);
        long[] plain = {x.time, x.value, x.belongs, x.change, x.cover};
        if (in(what, 0, 4)) {
            return plain[what];
        }
        return in(what, 10, 9 + x.counts.length) ? x.counts[what - 10] : NO;
    }

    private static List<Sample> within(List<Sample> samples, int a, int b) {
        List<Sample> found = new ArrayList<>();
        for (Sample x : samples) {
            if (a < x.time && x.time <= b) {
                found.add(x);
            }
        }
        return found;
    }

    private static long measure(List<Sample> samples, int what) {
        long answer = 0;
        switch (what) {
            case 0:
                return samples.size();
            case 1:
            case 2:
                return samples.stream().filter(x -> x.belongs == what + 1).count();
            case 3:
                return samples.stream().mapToLong(x -> x.change).sum();
            case 4:
                return samples.stream().mapToLong(x -> x.cover).sum();
            case 5:
                return samples.stream().mapToLong(x -> x.value).min().orElse(NO);
            case 6:
                return samples.stream().mapToLong(x -> x.value).max().orElse(NO);
            case 7:
                return samples.stream().mapToLong(x -> x.value).sum();
            case 8:
                return samples.isEmpty() ? NO : samples.get(0).value;
            case 9:
                return samples.isEmpty() ? NO : samples.get(samples.size() - 1).value;
            default:
                return NO;
        }
    }

    private boolean defined(int series) {
        return in(series, 0, 7) && all[series].kind != -5;
    }

    long window(int series, int a, int b, int what) {
        return defined(series) && a <= b ? measure(within(all[series].kept(), a, b), what) : NO;
    }

    /** The samples of the kept rollups, by their numbers. */
    private static TreeMap<Integer, List<Sample>> rollups(Series s, int resolution) {
        TreeMap<Integer, List<Sample>> rollups = new TreeMap<>();
        int step = STEPS[resolution];
        for (Sample x : s.ever) {
            int k = 0;
            while (!(k * step < x.time && x.time <= (k + 1) * step)) {
                k += x.time > (k + 1000) * step ? 1000 : 1;
            }
            rollups.computeIfAbsent(k, none -> new ArrayList<>()).add(x);
        }
        while (rollups.size() > 40) {
            rollups.pollFirstEntry();
        }
        return rollups;
    }

    private static List<Sample> rolledSamples(Series s, int resolution, int a, int b) {
        List<Sample> found = new ArrayList<>();
        rollups(s, resolution).forEach((k, samples) -> {
            if (a <= k * STEPS[resolution] && (k + 1) * STEPS[resolution] <= b) {
                found.addAll(samples);
            }
        });
        return found;
    }

    private boolean wrongRolled(int series, int resolution, int a, int b) {
        return !defined(series) || !in(resolution, 0, 1) || a > b || a % STEPS[resolution] != 0
            || b % STEPS[resolution] != 0;
    }

    long rolled(int series, int resolution, int a, int b, int what) {
        if (wrongRolled(series, resolution, a, b)) {
            return NO;
        }
        return measure(rolledSamples(all[series], resolution, a, b), what);
    }

    int differs(int series, int resolution, int a, int b) {
        if (rolled(series, resolution, a, b, 0) == NO) {
            return NONE;
        }
        int set = 0;
        for (int k = 0; k < 10; k++) {
            set += window(series, a, b, k) == rolled(series, resolution, a, b, k) ? 0 : 1 << k;
        }
        return set;
    }

    long rollup(int series, int resolution, int i, int what) {
        if (!in(series, 0, 7) || !in(resolution, 0, 1)) {
            return NO;
        }
        TreeMap<Integer, List<Sample>> rollups = rollups(all[series], resolution);
        if (!in(i, 0, rollups.size() - 1)) {
            return NO;
        }
        int number = new ArrayList<>(rollups.keySet()).get(i);
        return what == 10 ? number : measure(rollups.get(number), what);
    }

    long fused(int series, int k, int what) {
        return in(k, 0, 16666) ? rolled(series, 0, 60 * k, 60 * k + 60, what) : NO;
    }

    int rateBits(int series, int a, int b) {
        long time = window(series, a, b, 4);
        if (time == NO || time == 0) {
            return NONE;
        }
        return Float.floatToIntBits((float) ((double) window(series, a, b, 3) / time));
    }

    long bucket(int series, int a, int b, int k) {
        if (!in(series, 0, 7) || all[series].kind != 2 || a > b || !in(k, 0, all[series].bounds.length)) {
            return NO;
        }
        return within(all[series].kept(), a, b).stream().mapToLong(x -> x.bucketChanges[k]).sum();
    }

    /** The bounds, then the buckets; null if the set or the window is wrong. */
    private long[][] merge(int set, int a, int b) {
        if (set == 0 || (set & ~255) != 0 || a > b) {
            return null;
        }
        TreeSet<Integer> common = null;
        for (int s = 0; s < 8; s++) {
            if ((set & 1 << s) != 0) {
                if (all[s].kind != 2) {
                    return null;
                }
                TreeSet<Integer> bounds = new TreeSet<>();
                Arrays.stream(all[s].bounds).forEach(bounds::add);
                if (common == null) {
                    common = bounds;
                }
                common.retainAll(bounds);
            }
        }
        long[] bounds = common.stream().mapToLong(x -> x).toArray();
        long[] buckets = new long[bounds.length + 1];
        for (int k = 0; k <= bounds.length; k++) {
            long upTo = sumUpTo(set, a, b, k < bounds.length ? bounds[k] : Long.MAX_VALUE);
            buckets[k] = upTo - (k > 0 ? sumUpTo(set, a, b, bounds[k - 1]) : 0);
        }
        return new long[][] {bounds, buckets};
    }

    private long sumUpTo(int set, int a, int b, long bound) {
        long sum = 0;
        for (int s = 0; s < 8; s++) {
            for (int k = 0; (set & 1 << s) != 0 && k <= all[s].bounds.length; k++) {
                if (bound == Long.MAX_VALUE || k < all[s].bounds.length && all[s].bounds[k] <= bound) {
                    sum += bucket(s, a, b, k);
                }
            }
        }
        return sum;
    }

    long merged(int set, int a, int b, int what) {
        long[][] merge = merge(set, a, b);
        if (merge == null) {
            return NO;
        }
        if (in(what, 0, 1)) {
            return what == 0 ? merge[0].length : Arrays.stream(merge[1]).sum();
        }
        if (in(what, 10, 9 + merge[0].length)) {
            return merge[0][what - 10];
        }
        return in(what, 20, 19 + merge[1].length) ? merge[1][what - 20] : NO;
    }

    long quantile(int set, int a, int b, int q, int part) {
        long[][] merge = merge(set, a, b);
        if (merge == null || !in(q, 1, 100) || !in(part, 0, 1)) {
            return NO;
        }
        long[] bounds = merge[0];
        long[] buckets = merge[1];
        long sum = Arrays.stream(buckets).sum();
        if (bounds.length == 0 || sum == 0) {
            return NO;
        }
        long rank = 0;
        while (rank * 100 < q * sum) {
            rank++;
        }
        int k = 0;
        long n = 0;
        while (n + buckets[k] < rank) {
            n += buckets[k++];
        }
        if (k == bounds.length) {
            return part == 0 ? bounds[k - 1] : 1;
        }
        BigInteger l = BigInteger.valueOf(k == 0 ? 0 : bounds[k - 1]);
        BigInteger u = BigInteger.valueOf(bounds[k]);
        BigInteger m = BigInteger.valueOf(buckets[k]);
        BigInteger top = l.multiply(m).add(u.subtract(l).multiply(BigInteger.valueOf(rank - n)));
        return (part == 0 ? top : m).divide(top.gcd(m)).longValueExact();
    }

    /**
     * Reads a formula byte by byte, with a stack of what is open. Answers the index of its first wrong byte, its length
     * if it ends too early, and -1 if it is right.
     */
    private static int wrongAt(String text) {
        Deque<Character> open = new ArrayDeque<>();
        // "factor", "after", or the part of a call or number that has been read
        String state = "factor";
        for (int i = 0; i < text.length(); i++) {
            char c = text.charAt(i);
            String next = "wrong";
            if (state.equals("factor")) {
                next = afterFactorByte(c, open);
            } else if (state.matches("[0-9]+")) {
                next = (state + c).matches("0|[1-9][0-9]{0,5}") ? state + c : afterOperand(c, open);
            } else if (state.equals("after")) {
                next = afterOperand(c, open);
            } else {
                next = afterCallByte(state + c, open);
            }
            if (next.equals("wrong")) {
                return i;
            }
            state = next;
        }
        while (!open.isEmpty() && open.peek() == '-') {
            open.pop();
        }
        return open.isEmpty() && state.matches("[0-9]+|after") ? -1 : text.length();
    }

    private static String afterFactorByte(char c, Deque<Character> open) {
        if (c >= '0' && c <= '9') {
            return "" + c;
        }
        if (open.size() == 6) {
            return "wrong";
        }
        if (c == '-' || c == '(') {
            open.push(c);
            return "factor";
        }
        return "riamscl".indexOf(c) >= 0 ? "" + c : "wrong";
    }

    private static String afterOperand(char c, Deque<Character> open) {
        while (!open.isEmpty() && open.peek() == '-') {
            open.pop();
        }
        if (c == ')' && !open.isEmpty()) {
            open.pop();
            return "after";
        }
        return "+-*/".indexOf(c) >= 0 ? "factor" : "wrong";
    }

    private static String afterCallByte(String read, Deque<Character> open) {
        for (String name : NAMES) {
            if (name.startsWith(read)) {
                return read;
            }
            if (read.startsWith(name)) {
                String rest = read.substring(name.length());
                if (rest.matches("\\([0-7],(0|[1-9][0-9]{0,5})\\)")) {
                    return "after";
                }
                if (rest.matches("\\(([0-7](,(0|[1-9][0-9]{0,5})?)?)?")) {
                    return read;
                }
            }
        }
        return "wrong";
    }

    int ask(int time) {
        if (!in(time, 1, 999999)) {
            return BAD;
        }
        String text = tape;
        tape = "";
        int wrong = wrongAt(text);
        if (wrong >= 0) {
            return -100 - wrong;
        }
        steps = new ArrayList<>();
        answer = null;
        try {
            answer = value(text, time);
        } catch (NoValue none) {
            return 0;
        }
        return 1;
    }

    /** The value of a right text, split at its last operator of the lowest rank. */
    private double value(String text, int time) {
        int split = splitAt(text, "+-");
        if (split < 0) {
            split = splitAt(text, "*/");
        }
        if (split >= 0) {
            double left = value(text.substring(0, split), time);
            double right = value(text.substring(split + 1), time);
            switch (text.charAt(split)) {
                case '+': return left + right;
                case '-': return left - right;
                case '*': return left * right;
                default: break;
            }
            if (right == 0) {
                throw new NoValue();
            }
            return left / right;
        }
        if (text.charAt(0) == '-') {
            return -value(text.substring(1), time);
        }
        if (text.charAt(0) == '(') {
            return value(text.substring(1, text.length() - 1), time);
        }
        return text.matches("[0-9]+") ? Double.parseDouble(text) : called(text, time);
    }

    private static int splitAt(String text, String operators) {
        int depth = 0;
        int found = -1;
        for (int i = 0; i < text.length(); i++) {
            char c = text.charAt(i);
            depth += c == '(' ? 1 : c == ')' ? -1 : 0;
            boolean behindOperand = i > 0 && "+-*/(".indexOf(text.charAt(i - 1)) < 0;
            if (depth == 0 && behindOperand && operators.indexOf(c) >= 0) {
                found = i;
            }
        }
        return found;
    }

    private double called(String text, int time) {
        Step step = new Step();
        step.function = Arrays.asList(NAMES).indexOf(text.substring(0, text.indexOf('(')));
        step.series = text.charAt(text.indexOf('(') + 1) - '0';
        step.width = Integer.parseInt(text.substring(text.indexOf(',') + 1, text.length() - 1));
        steps.add(step);
        int[] tops = {3, 3, 7, 5, 6, 7, 0, 9};
        long top = window(step.series, time - step.width, time, tops[step.function]);
        if (top == NO) {
            throw new NoValue();
        }
        double value = top;
        if (step.function == 0 || step.function == 2) {
            long below = window(step.series, time - step.width, time, step.function == 0 ? 4 : 0);
            if (below == 0) {
                throw new NoValue();
            }
            value = value / below;
        }
        step.value = value;
        return value;
    }

    int answerBits() {
        return answer == null ? STATE : Float.floatToIntBits((float) (double) answer);
    }

    int step(int i, int what) {
        if (!in(i, 0, steps.size() - 1) || !in(what, 0, 4)) {
            return NONE;
        }
        Step s = steps.get(i);
        int bits = s.value == null ? -5 : Float.floatToIntBits((float) (double) s.value);
        return new int[] {s.function, s.series, s.width, s.value == null ? 0 : 1, bits}[what];
    }

    int explained(int i, int k) {
        if (!in(i, 0, steps.size() - 1)) {
            return NONE;
        }
        Step s = steps.get(i);
        String value = s.value == null ? "?" : "" + (long) (double) s.value;
        String text = NAMES[s.function] + "(" + s.series + "," + s.width + ")=" + value;
        return k == -1 ? text.length() : in(k, 0, text.length() - 1) ? text.charAt(k) : NONE;
    }

    int store(int row, int series, int resolution, int what, int exact) {
        if (!in(row, 0, 3) || !defined(series) || !in(resolution, 0, 1) || !in(what, 0, 9)) {
            return NONE;
        }
        if (!in(exact, 0, 1)) {
            return BAD;
        }
        List<List<Sample>> rollups = new ArrayList<>(rollups(all[series], resolution).values());
        if (rollups.isEmpty()) {
            return STATE;
        }
        int[] ints = new int[rollups.size()];
        float[] floats = new float[rollups.size()];
        for (int i = 0; i < ints.length; i++) {
            ints[i] = (int) measure(rollups.get(i), what);
            floats[i] = (float) measure(rollups.get(i), what);
        }
        rows[row] = exact == 1 ? ints : floats;
        return ints.length;
    }

    private int length(int row) {
        return rows[row] instanceof int[] ? ((int[]) rows[row]).length : ((float[]) rows[row]).length;
    }

    int copy(int from, int to, int n) {
        if (!in(from, 0, 3) || !in(to, 0, 3)) {
            return NONE;
        }
        if (rows[from] == null || rows[to] == null) {
            return STATE;
        }
        if (n < 0 || n > length(from) || n > length(to)) {
            return BAD;
        }
        if (n > 0 && rows[from].getClass() != rows[to].getClass()) {
            return FULL;
        }
        int changed = 0;
        for (int i = 0; i < n; i++) {
            changed += element(from, i) == element(to, i) ? 0 : 1;
        }
        if (n > 0) {
            System.arraycopy(rows[from], 0, rows[to], 0, n);
        }
        return changed;
    }

    int again(int from, int to) {
        if (!in(from, 0, 3) || !in(to, 0, 3)) {
            return NONE;
        }
        if (rows[from] == null) {
            return STATE;
        }
        rows[to] = rows[from] instanceof int[] ? ((int[]) rows[from]).clone() : ((float[]) rows[from]).clone();
        return length(to);
    }

    long element(int row, int i) {
        if (!in(row, 0, 3) || rows[row] == null || !in(i, 0, length(row) - 1)) {
            return NO;
        }
        return rows[row] instanceof int[] ? ((int[]) rows[row])[i] : Float.floatToIntBits(((float[]) rows[row])[i]);
    }

    private static Series[] copyOf(Series[] series) {
        Series[] copies = new Series[series.length];
        for (int i = 0; i < series.length; i++) {
            copies[i] = series[i].copy();
        }
        return copies;
    }

    int image() {
        image = copyOf(all);
        imageParameters = parameters.clone();
        return count(1);
    }

    int undo() {
        if (image == null) {
            return STATE;
        }
        all = copyOf(image);
        parameters = imageParameters.clone();
        return count(1);
    }

    int count(int what) {
        int counted = 0;
        for (Series s : all) {
            int belongs = what - 6;
            counted += what == 0 && s.kind != -5 ? 1 : 0;
            counted += what == 1 ? s.kept().size() : 0;
            counted += what == 2 ? s.first : 0;
            counted += in(what, 8, 9) ? (int) s.kept().stream().filter(x -> x.belongs == belongs).count() : 0;
        }
        for (Object row : rows) {
            counted += what == 5 && row != null ? 1 : 0;
        }
        switch (what) {
            case 3: return tape.length();
            case 4: return steps.size();
            case 6: return parameters[0];
            case 7: return parameters[1];
            default: return in(what, 0, 9) ? counted : NONE;
        }
    }
}
