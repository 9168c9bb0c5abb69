import java.io.File;
import java.io.IOException;
import java.lang.reflect.Method;
import java.lang.reflect.Modifier;
import java.net.URL;
import java.net.URLClassLoader;
import java.nio.file.Files;
import java.nio.file.Path;
import java.util.ArrayList;
import java.util.List;
import java.util.regex.Matcher;
import java.util.regex.Pattern;
import javax.tools.ToolProvider;

/** The examples of README.md call every method, and answer what they say: they are run in their order on one object. */
public final class ReadmeTest {
    /** A call, or a variable with a call, and its answer as a comment. */
    private static final Pattern ANSWERED = Pattern.compile("(\\w+ (\\w+) = )?(.*); *// (-?[\\d.]*\\d|'.').*");

    private final StringBuilder program = new StringBuilder();
    private final List<String> lines = new ArrayList<>();
    private final List<String> wanted = new ArrayList<>();

    private ReadmeTest() {
    }

    public static void main(String[] args) throws Exception {
        ReadmeTest test = new ReadmeTest();
        test.read(Path.of(System.getProperty("readme", "README.md")));
        for (Method method : MetricStore.class.getDeclaredMethods()) {
            boolean called = test.program.indexOf("store." + method.getName() + "(") >= 0;
            Check.due("an example of " + method, called || Modifier.isPrivate(method.getModifiers()) ? 1 : 0, 1);
        }
        List<?> answers = test.run();
        Check.due("the answers of the examples", answers.size(), test.wanted.size());
        for (int i = 0; i < answers.size(); i++) {
            Check.due(test.lines.get(i), String.valueOf(answers.get(i)), test.wanted.get(i));
        }
        Check.end("ReadmeTest");
    }

    private void read(Path readme) throws IOException {
        program.append("public final class Examples { public static java.util.List<Float> answers() {\n");
        program.append("java.util.List<Float> answers = new java.util.ArrayList<>();\n");
        boolean inside = false;
        for (String line : Files.readAllLines(readme)) {
            if (line.startsWith("```")) {
                inside = line.equals("```java");
            } else if (inside) {
                addLine(line);
            }
        }
        program.append("return answers; } }\n");
    }

    private void addLine(String line) {
        Matcher answered = ANSWERED.matcher(line);
        if (!answered.matches()) {
            program.append(line).append('\n');
            return;
        }
        boolean named = answered.group(1) != null;
        String call = named ? answered.group(2) : answered.group(3);
        program.append(named ? line.substring(0, line.indexOf("//")) : "").append('\n');
        program.append("answers.add((float) ").append(call).append(");\n");
        lines.add(line);
        wanted.add(number(answered.group(4)));
    }

    private static String number(String answer) {
        return String.valueOf(answer.charAt(0) == '\'' ? (float) answer.charAt(1) : Float.parseFloat(answer));
    }

    private List<?> run() throws Exception {
        String path = System.getProperty("java.class.path");
        Path folder = Files.createDirectories(Path.of(path.split(File.pathSeparator)[0], "readme"));
        Path source = folder.resolve("Examples.java");
        Files.writeString(source, program);
        int ended = ToolProvider.getSystemJavaCompiler().run(null, null, null, "-cp", path, source.toString());
        Check.due("the examples compile", ended, 0);
        if (ended != 0) {
            return List.of();
        }
        try (URLClassLoader loader = new URLClassLoader(new URL[] {folder.toUri().toURL()})) {
            return (List<?>) loader.loadClass("Examples").getMethod("answers").invoke(null);
        }
    }
}
