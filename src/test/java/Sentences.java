import java.io.IOException;
import java.nio.file.Files;
import java.nio.file.Path;
import java.util.ArrayList;
import java.util.LinkedHashSet;
import java.util.List;
import java.util.Set;
import java.util.regex.Matcher;
import java.util.regex.Pattern;

/**
 * The sentences of the document, and the parts of them between semicolons, each under its section: the number of the
 * promise, or the word that begins the paragraph of the description. Each has a test of its own, or is told to name no
 * boundary case.
 */
final class Sentences {
    private static final Pattern PROMISE = Pattern.compile("## Promise (\\d+): .*");
    private static final Pattern PART = Pattern.compile("(In doubt|[A-Z][a-z]+)\\. (.*)");
    private static final Set<String> TESTED = new LinkedHashSet<>();
    private static final Set<String> PLAIN = new LinkedHashSet<>();
    private static String current = "";
    private static int answers;

    private Sentences() {
    }

    /** What is due from here on is due for this sentence. */
    static void begin(String section, String sentence) {
        close();
        current = section + ": " + sentence;
        Check.due("tested once: " + current, TESTED.add(current) ? 1 : 0, 1);
        answers = 0;
    }

    private static void close() {
        if (!current.isEmpty()) {
            Check.due("has a test: " + current, answers > 0 ? 1 : 0, 1);
        }
    }

    static void due(long got, long want) {
        answers++;
        Check.due(got == want ? "" : "line " + line() + ": " + current, got, want);
    }

    private static String line() {
        return StackWalker.getInstance().walk(frames -> frames
            .filter(frame -> frame.getClassName().endsWith("Sentences") && !frame.getClassName().equals("Sentences"))
            .findFirst().map(frame -> frame.getClassName() + " " + frame.getLineNumber()).orElse("?"));
    }

    /** Sentences that name no boundary case. */
    static void plain(String section, String... sentences) {
        for (String sentence : sentences) {
            PLAIN.add(section + ": " + sentence);
        }
    }

    /** To be called last: the document has these sentences and no others. */
    static void end(Path document) throws IOException {
        close();
        if (!Files.isReadable(document)) {
            System.out.println("not read: " + document);
            return;
        }
        Set<String> told = new LinkedHashSet<>();
        for (String sentence : sentencesOf(Files.readAllLines(document))) {
            told.add(sentence);
            int known = (TESTED.contains(sentence) ? 1 : 0) + (PLAIN.contains(sentence) ? 1 : 0);
            Check.due("tested or plain, not both: " + sentence, known, 1);
        }
        Set<String> untold = new LinkedHashSet<>(TESTED);
        untold.addAll(PLAIN);
        untold.removeAll(told);
        for (String sentence : untold) {
            Check.due("stands in the document: " + sentence, 0, 1);
        }
    }

    private static List<String> sentencesOf(List<String> lines) {
        List<String> found = new ArrayList<>();
        StringBuilder paragraph = new StringBuilder();
        String section = "";
        boolean code = false;
        for (String line : lines) {
            boolean fence = line.startsWith("```");
            code = code != fence;
            if (fence || code || line.isBlank() || line.startsWith("#") || line.startsWith("- ")) {
                section = take(section, paragraph, found);
            }
            Matcher promise = PROMISE.matcher(line);
            if (promise.matches()) {
                section = promise.group(1);
            } else if (line.startsWith("#")) {
                section = line.replace("#", "").trim();
            } else if (!fence && !code) {
                paragraph.append(' ').append(line.trim());
            }
        }
        take(section, paragraph, found);
        return found;
    }

    /** Answers the section to which the paragraph belongs. */
    private static String take(String section, StringBuilder paragraph, List<String> found) {
        String text = paragraph.toString().replaceFirst("^ *- ", "").replace("`", "").replaceAll(" +", " ").trim();
        paragraph.setLength(0);
        Matcher part = PART.matcher(text);
        String of = part.matches() ? part.group(1) : section;
        for (String sentence : (part.matches() ? part.group(2) : text).split("(?<=[.;]) ")) {
            String bare = sentence.replaceFirst("[.;:]$", "");
            if (!bare.isEmpty() && !bare.matches("(int|long) [a-zA-Z]+\\(.*\\)|MetricStore\\(\\)|[a-z]+: the [a-z]+")) {
                found.add(of + ": " + bare);
            }
        }
        return of;
    }
}
