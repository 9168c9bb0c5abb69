import java.io.IOException;
import java.nio.file.Path;

/**
 * Each sentence of the document that names a boundary case, with a test of its own; a sentence of the document that is
 * neither tested here nor told to name no boundary case is a failure.
 */
public final class SentenceTest {
    private SentenceTest() {
    }

    public static void main(String[] args) throws IOException {
        DescriptionSentences.test();
        FormulaSentences.test();
        DoubtSentences.test();
        SampleSentences.test();
        WindowSentences.test();
        RowSentences.test();
        plain();
        Sentences.end(Path.of(System.getProperty("document", "../shared/DOC.md")));
        Check.end("SentenceTest");
    }

    /** The sentences that name no boundary case. */
    private static void plain() {
        Sentences.plain("What it is", "A metric store: samples of counters, gauges and histograms are kept in blocks, rolled up "
            + "to two resolutions as they come, and asked over windows with resets and gaps taken into account, from the "
            + "samples or from what was rolled up", "histograms with unlike bounds are merged and their quantiles told",
            "formulas over windows are read from texts, evaluated and explained",
            "Further: retention, comparison of both ways, rows of values, and a snapshot", "The class is not thread-safe",
            "An object is used for at most 512 calls after it has been made", "what later calls answer is free");
        Sentences.plain("Not promised", "How the state is held inside the object is free, as are the speed of each call, the "
            + "text of toString and the behaviour of equals and hashCode",
            "Use of one object from several threads at once is not promised to be safe", "Nothing is promised beyond the "
            + "answers and state changes described above, and nothing about an object after its 512th call");
        Sentences.plain("Errors", "The constants",
            "The constructor and the methods follow, a promise each: the signature, then what it does");
        Sentences.plain("9", "v: the new value");
        Sentences.plain("10", "Returns a property of a series", "Returns the property");
        Sentences.plain("11", "Returns a property of a kept sample", "what: 0 the time", "1 the value",
            "Returns the property");
        Sentences.plain("12", "Returns the measure");
        Sentences.plain("13", "Returns the measure");
        Sentences.plain("15", "Returns a property of a kept rollup", "Returns the property");
        Sentences.plain("16", "Returns the measure");
        Sentences.plain("18", "Returns the change");
        Sentences.plain("19", "Returns a number of the merge of histograms for a window", "set: the set of series",
            "Returns the number");
        Sentences.plain("20", "Returns a quantile of the merge of histograms for a window", "set: the set of series",
            "Returns the part");
        for (String promise : new String[] {"12", "14", "17", "18", "19", "20"}) {
            Sentences.plain(promise, "a: the beginning of the window", "b: its end");
        }
        Sentences.plain("22", "Returns the value of the latest evaluation");
        Sentences.plain("23", "Returns a property of a step of the latest evaluation", "what: 0 the function",
            "1 the series", "2 the number w", "Returns the property");
        Sentences.plain("24", "Returns the character or the length");
        Sentences.plain("26", "from: the row from which they are copied", "to: the other row");
        Sentences.plain("27", "from: the other row");
        Sentences.plain("28", "Returns an element of a row");
        Sentences.plain("31", "Returns a count", "Returns the count");
    }
}
