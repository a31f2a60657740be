import java.lang.reflect.Method;
import java.util.regex.Matcher;
import java.util.regex.Pattern;

/**
 * Goes through the document from its terms to its last promise: every word of it is quoted by a test. Words of a
 * promise are quoted by a test of that promise, so that a line like "UNKNOWN; OUTSIDE." is tested for each call.
 */
final class WholeDocumentTest {
    private static final Class<?>[] TESTS =
        {EdgesOfHallTest.class, EdgesOfSeatsTest.class, EdgesOfReadingsTest.class, EdgesOfSheetsTest.class};
    private static final int PROMISES = 34;
    /** What promises nothing: headings, the calls' signatures, marks; and the interface's headings, FaceTest's part. */
    private static final Pattern FRAME = Pattern.compile(
        "## Terms|## Promise \\d+: [^`]*`[^`]*`:|```text|==== \\d|Ahead of the calls .*? the interface says: ---- .*?\\.");

    private final String document;
    private final boolean[] seen;
    private final int terms;
    private final int end;

    private WholeDocumentTest(String document) {
        this.document = document;
        seen = new boolean[document.length()];
        terms = document.indexOf("## Terms");
        end = document.indexOf("## Not promised");
    }

    public static void main(String[] args) throws Exception {
        WholeDocumentTest test = new WholeDocumentTest(Edges.document());
        test.places();
        test.quotes();
        test.frame();
        test.everyWord();
        Due.end("WholeDocumentTest");
    }

    private void places() {
        Due.due("there are terms", terms > 0);
        Due.due("the terms come first", terms < begin(1));
        for (int promise = 1; promise <= PROMISES; promise++) {
            Due.due("promise " + promise + " has its place", begin(promise) < begin(promise + 1));
        }
    }

    /** Where a promise begins; the one behind the last: where the promises end. */
    private int begin(int promise) {
        return promise > PROMISES ? end : document.indexOf("## Promise " + promise + ":");
    }

    private void quotes() {
        for (Class<?> tests : TESTS) {
            for (Method m : Edges.testsOf(tests)) {
                for (String words : m.getAnnotation(Sentence.class).value()) {
                    Due.due(m.getName() + " quotes its own promise, or what is said ahead of all: " + words,
                        see(Edges.plain(words), Edges.promiseOf(m)));
                }
            }
        }
    }

    /** Marks words wherever they stand ahead of the promises and in one of them; whether they do. */
    private boolean see(String words, int promise) {
        boolean found = false;
        for (int at = document.indexOf(words); at >= 0; at = document.indexOf(words, at + 1)) {
            if (at < begin(1) || at >= begin(promise) && at < begin(promise + 1)) {
                mark(at, at + words.length());
                found = true;
            }
        }
        return found;
    }

    private void frame() {
        Matcher frame = FRAME.matcher(document);
        while (frame.find()) {
            mark(frame.start(), frame.end());
        }
    }

    private void mark(int from, int to) {
        for (int i = from; i < to; i++) {
            seen[i] = true;
        }
    }

    private void everyWord() {
        Matcher word = Pattern.compile("[A-Za-z0-9]+").matcher(document);
        word.region(terms, end);
        int words = 0;
        while (word.find()) {
            words++;
            Due.due("a test quotes '" + word.group() + "' of: .." + around(word.start(), word.end()) + "..",
                seen[word.start()] && seen[word.end() - 1]);
        }
        Due.due("the document has words", words > 1000);
    }

    private String around(int from, int to) {
        return document.substring(Math.max(terms, from - 40), Math.min(end, to + 40));
    }
}
