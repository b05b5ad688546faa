import java.io.IOException;
import java.nio.file.Files;
import java.nio.file.Path;
import java.util.BitSet;
import java.util.Set;
import java.util.TreeSet;
import java.util.regex.Matcher;
import java.util.regex.Pattern;

/**
 * Tests by sentences of the document: each names its promise and quotes the words that tell the boundary case. The
 * words must stand in the document, and what looks like a boundary case there must be quoted by a test.
 */
class Boundaries extends RowRingChecks {
    private static final Path DOCUMENT = Path.of("../shared/DOC.md");
    private static final int PROMISES = 34;
    // Words by which the document tells of too small, too large, empty, full, none, refused, and of several.
    private static final Pattern MARKS = Pattern.compile("at most|\\bNONE\\b|-[23]\\b|nothing|\\d+ to \\d+|without"
        + "|\\b[Nn]one\\b|\\b[Nn]o\\b|of several|downwards|goes round|by 0|\\btoo\\b|\\btoo many|empty|never|below"
        + "|beyond|above|or more|or less|the last|the first|least|fewest|\\bmost\\b|as far as|has not|more than|once"
        + "|\\bif\\b|\\ball\\b|towards|half|the rest|going back|gone back|on none|by none|already|as soon as|\\(0");

    private static final String TEXT = readDocument();
    private static final BitSet QUOTED = new BitSet();
    private static final Set<Integer> NAMED = new TreeSet<>();
    private static int sentences = 0;

    /** One test: the promise, the words of the document, and what must hold by them. */
    static void sentence(int promise, String words, Runnable test) {
        about("Promise " + promise + ", \"" + words + "\": ");
        int before = looked();
        test.run();
        if (looked() == before) {
            wrong("it looks at no answer");
        }
        if (!quote(0, termsEnd(), words) & !quote(promiseStart(promise), promiseStart(promise + 1), words)) {
            wrong("these words do not stand in the document");
        }
        NAMED.add(promise);
        sentences++;
        about("");
    }

    /** Behind all tests: each promise was named, and each mark of a boundary case was quoted. */
    static void allNamed() {
        for (int promise = 1; promise <= PROMISES; promise++) {
            due("tests that name promise " + promise, NAMED.contains(promise) ? 1 : 0, 1);
        }
        Matcher mark = MARKS.matcher(TEXT);
        for (int from = TEXT.indexOf("## Terms"); mark.find(from); from = mark.end()) {
            boolean told = mark.start() < termsEnd() || mark.start() > promiseStart(1);
            if (told && mark.start() < promiseStart(PROMISES + 1) && !QUOTED.get(mark.start())) {
                int start = Math.max(0, mark.start() - 40);
                int stop = Math.min(TEXT.length(), mark.end() + 40);
                wrong("no test quotes \"" + mark.group() + "\" in: .. " + TEXT.substring(start, stop) + " ..");
            }
        }
        System.out.println(sentences + " sentences have a test of their own");
    }

    private static boolean quote(int from, int until, String words) {
        boolean found = false;
        for (int at = TEXT.indexOf(words, from); at >= 0 && at + words.length() <= until;
            at = TEXT.indexOf(words, at + 1)) {
            QUOTED.set(at, at + words.length());
            found = true;
        }
        return found;
    }

    private static int termsEnd() {
        return TEXT.indexOf("The constants:");
    }

    private static int promiseStart(int promise) {
        return TEXT.indexOf(promise > PROMISES ? "## Not promised" : "## Promise " + promise + ":");
    }

    private static String readDocument() {
        try {
            return Files.readString(DOCUMENT).replaceAll("\\s+", " ");
        } catch (IOException e) {
            throw new IllegalStateException("the document is not at " + DOCUMENT.toAbsolutePath(), e);
        }
    }
}
