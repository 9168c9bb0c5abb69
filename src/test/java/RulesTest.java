import java.io.DataInputStream;
import java.io.IOException;
import java.io.InputStream;
import java.lang.reflect.Array;
import java.lang.reflect.Constructor;
import java.lang.reflect.Field;
import java.lang.reflect.Method;
import java.lang.reflect.Modifier;
import java.util.ArrayList;
import java.util.Arrays;
import java.util.IdentityHashMap;
import java.util.List;
import java.util.Map;
import java.util.Set;
import java.util.TreeSet;

/** What LANGUAGE.md asks of the class that can be seen in its class files and in an object of it. */
public final class RulesTest {
    private static final String[] FACE = {
        "int define(int, int)", "int feed(int)", "int histogram(int)", "int append(int, int, int)",
        "int observe(int, int, int)", "int scrape(int, int)", "int restart(int)", "int parameter(int, int)",
        "int series(int, int)", "long sample(int, int, int)", "long window(int, int, int, int)",
        "long rolled(int, int, int, int, int)", "int differs(int, int, int, int)", "long rollup(int, int, int, int)",
        "long fused(int, int, int)", "int rateBits(int, int, int)", "long bucket(int, int, int, int)",
        "long merged(int, int, int, int)", "long quantile(int, int, int, int, int)", "int ask(int)",
        "int answerBits()", "int step(int, int)", "int explained(int, int)", "int store(int, int, int, int, int)",
        "int copy(int, int, int)", "int again(int, int)", "long element(int, int)", "int image()", "int undo()",
        "int count(int)",
    };
    private static final Set<String> LIBRARY = Set.of(
        "java/lang/Object.<init>()V", "java/lang/Math.max(II)I", "java/lang/Math.abs(I)I",
        "java/lang/String.length()I", "java/lang/String.charAt(I)C",
        "java/lang/System.arraycopy(Ljava/lang/Object;ILjava/lang/Object;II)V",
        "java/lang/StringBuilder.<init>()V", "java/lang/StringBuilder.setLength(I)V",
        "java/lang/StringBuilder.length()I", "java/lang/StringBuilder.charAt(I)C",
        "java/lang/StringBuilder.append(C)Ljava/lang/StringBuilder;",
        "java/lang/StringBuilder.append(I)Ljava/lang/StringBuilder;",
        "java/lang/StringBuilder.append(Ljava/lang/String;)Ljava/lang/StringBuilder;");

    private RulesTest() {
    }

    private static void rule(String text, boolean kept) {
        Check.due(text, kept ? 1 : 0, 1);
    }

    public static void main(String[] args) throws Exception {
        List<Class<?>> classes = new ArrayList<>(Arrays.asList(MetricStore.class.getDeclaredClasses()));
        classes.add(MetricStore.class);
        face();
        inside(classes);
        for (Class<?> c : classes) {
            calls(c);
        }
        room();
        Check.end("RulesTest");
    }

    private static void face() throws Exception {
        Set<String> wanted = new TreeSet<>(Arrays.asList(FACE));
        Set<String> found = new TreeSet<>();
        for (Method m : MetricStore.class.getDeclaredMethods()) {
            if (!Modifier.isPrivate(m.getModifiers())) {
                rule("1: " + m + " is public and no more", m.getModifiers() == Modifier.PUBLIC);
                String parameters = Arrays.toString(m.getParameterTypes());
                String name = m.getReturnType() + " " + m.getName();
                found.add(name + "(" + parameters.substring(1, parameters.length() - 1) + ")");
            }
        }
        Check.due("1: the methods", found.toString(), wanted.toString());
        rule("1: public and final", MetricStore.class.getModifiers() == (Modifier.PUBLIC | Modifier.FINAL));
        Set<String> constants = new TreeSet<>();
        for (Field f : MetricStore.class.getDeclaredFields()) {
            if (!Modifier.isPrivate(f.getModifiers())) {
                rule("1: " + f, f.getModifiers() == (Modifier.PUBLIC | Modifier.STATIC | Modifier.FINAL));
                constants.add(f.getType() + " " + f.getName() + " " + f.getLong(null));
            }
        }
        String due = "[int BAD -2, int FULL -4, int NONE -1, int STATE -3, long NO " + Long.MIN_VALUE + "]";
        Check.due("1: the constants", constants.toString(), due);
        Constructor<?>[] made = MetricStore.class.getDeclaredConstructors();
        rule("1: one constructor", made.length == 1 && made[0].getParameterCount() == 0
            && made[0].getModifiers() == Modifier.PUBLIC);
    }

    private static void inside(List<Class<?>> classes) {
        Set<String> names = new TreeSet<>();
        for (String method : FACE) {
            names.add(method.substring(method.indexOf(' ') + 1, method.indexOf('(')));
        }
        rule("11: some twelve classes", classes.size() <= 12);
        for (Class<?> c : classes) {
            boolean outer = c == MetricStore.class;
            int others = Modifier.PUBLIC | Modifier.PROTECTED;
            rule("1: " + c, outer || Modifier.isStatic(c.getModifiers()) && (c.getModifiers() & others) == 0);
            int fields = 0;
            for (Field f : c.getDeclaredFields()) {
                rule("5: " + f, !Modifier.isStatic(f.getModifiers()) || Modifier.isFinal(f.getModifiers()));
                rule("3: " + f, !f.getType().isArray() || !f.getType().getComponentType().isArray());
                fields += Modifier.isStatic(f.getModifiers()) ? 0 : 1;
            }
            rule("11: the fields of " + c, fields <= 20);
            for (Method m : c.getDeclaredMethods()) {
                rule("11: " + m, m.getParameterCount() <= 7);
                rule("1: " + m, outer && !Modifier.isPrivate(m.getModifiers()) || !names.contains(m.getName()));
            }
        }
    }

    /** Reads the constants of a class file: whatever the class calls stands among them. */
    private static void calls(Class<?> c) throws IOException {
        String file = c.getName() + ".class";
        try (InputStream bytes = c.getResourceAsStream(file); DataInputStream in = new DataInputStream(bytes)) {
            in.readInt();
            in.readInt();
            int n = in.readUnsignedShort();
            String[] texts = new String[n];
            int[][] pairs = new int[n][];
            int[] tags = new int[n];
            for (int i = 1; i < n; i++) {
                int tag = in.readUnsignedByte();
                tags[i] = tag;
                if (tag == 1) {
                    texts[i] = in.readUTF();
                } else if (tag == 5 || tag == 6) {
                    in.readLong();
                    i++;
                } else if (tag == 7 || tag == 8) {
                    pairs[i] = new int[] {in.readUnsignedShort()};
                } else if (tag == 3 || tag == 4) {
                    in.readInt();
                } else {
                    rule("10: no constant of the kind " + tag + " in " + file, tag >= 9 && tag <= 12);
                    pairs[i] = new int[] {in.readUnsignedShort(), in.readUnsignedShort()};
                }
            }
            for (int i = 1; i < n; i++) {
                if (tags[i] == 10 || tags[i] == 11) {
                    int[] name = pairs[pairs[i][1]];
                    String owner = texts[pairs[pairs[i][0]][0]];
                    String called = owner + "." + texts[name[0]] + texts[name[1]];
                    rule("4: " + called, owner.startsWith("MetricStore") || LIBRARY.contains(called));
                }
                if (tags[i] == 7) {
                    String type = texts[pairs[i][0]];
                    rule("6: " + type, !type.endsWith("Exception") && !type.endsWith("Error"));
                }
            }
        }
    }

    /** 512 calls share room for 600000 objects and 7.3 million fields and elements. */
    private static void room() throws Exception {
        MetricStore x = new MetricStore();
        for (int s = 0; s < 8; s++) {
            Check.histogram(x, s, "1,2,3,4,5,6");
            for (int i = 1; i <= 64; i++) {
                x.observe(s, i % 8, i);
                x.scrape(s, 25 * i);
            }
        }
        Check.ask(x, "inc(0,1)+inc(0,1)+inc(0,1)+inc(0,1)+inc(0,1)+inc(0,1)", 1600);
        long[] room = new long[2];
        measure(x, new IdentityHashMap<>(), room);
        rule("12: objects " + room[0], room[0] < 10000);
        rule("12: fields and elements " + room[1], room[1] < 60000);
        com.sun.management.ThreadMXBean threads =
            (com.sun.management.ThreadMXBean) java.lang.management.ManagementFactory.getThreadMXBean();
        int[] answers = new int[1];
        everyQuestion(x, answers);
        long before = threads.getThreadAllocatedBytes(Thread.currentThread().getId());
        for (int i = 0; i < 30; i++) {
            everyQuestion(x, answers);
        }
        long bytes = threads.getThreadAllocatedBytes(Thread.currentThread().getId()) - before;
        rule("12: the calls make nothing anew: " + bytes, bytes < 100000);
    }

    private static void everyQuestion(MetricStore x, int[] answers) {
        answers[0] += x.image() + x.undo() + x.count(8) + x.differs(0, 0, 0, 1200) + x.rateBits(0, 0, 9999);
        answers[0] += x.explained(5, -1) + x.explained(5, 3) + x.step(2, 4) + x.answerBits() + x.series(0, 3);
        answers[0] += (int) (x.merged(255, 0, 9999, 1) + x.quantile(255, 0, 9999, 77, 0) + x.bucket(3, 0, 9999, 4));
        answers[0] += (int) (x.rolled(0, 1, 0, 1200, 3) + x.fused(0, 3, 3) + x.window(0, 0, 9999, 7));
        answers[0] += x.store(0, 0, 0, 7, 0) + x.again(0, 1) + x.copy(0, 1, 5) + (int) x.element(1, 3);
        answers[0] += x.parameter(1, 8) + x.feed('(') + x.ask(5) + x.define(7, 1) + x.append(7, 1, 1) + x.count(1);
        x.feed('5');
        answers[0] += x.histogram(7) + x.observe(7, 1, 1) + x.scrape(7, 1) + x.restart(7) + (int) x.sample(7, 0, 0);
    }

    private static void measure(Object o, Map<Object, Object> seen, long[] room) throws IllegalAccessException {
        if (o == null || seen.put(o, o) != null) {
            return;
        }
        room[0]++;
        if (o.getClass().isArray()) {
            room[1] += Array.getLength(o);
            for (int i = 0; o instanceof Object[] && i < Array.getLength(o); i++) {
                measure(Array.get(o, i), seen, room);
            }
            return;
        }
        if (o instanceof StringBuilder) {
            room[1] += ((StringBuilder) o).capacity() + 2;
            return;
        }
        for (Field f : o.getClass().getDeclaredFields()) {
            if (!Modifier.isStatic(f.getModifiers())) {
                room[1]++;
                f.setAccessible(true);
                if (!f.getType().isPrimitive()) {
                    measure(f.get(o), seen, room);
                }
            }
        }
    }
}
