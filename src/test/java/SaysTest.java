import java.io.IOException;
import java.lang.reflect.Method;
import java.nio.file.Files;
import java.nio.file.Path;
import java.util.Arrays;
import java.util.regex.Matcher;
import java.util.regex.Pattern;

/**
 * Each test of a boundary case says words that stand in the document, in its promise's part or in the common
 * parts; and no place of the document that names a boundary case is left without a test that says it.
 */
public final class SaysTest {
    private static final Class<?>[] TESTS = {CardsHooksEdgesTest.class, TraysEdgesTest.class,
        WholeTraysEdgesTest.class, HappenedEdgesTest.class};
    /** What the document names boundary cases by. */
    private static final Pattern BOUNDARY = Pattern.compile("\\bBAD\\b|\\bNO\\b|\\bFULL\\b|\\bNONE\\b|-11\\b"
        + "|-10000000000|\\bempty\\b|\\d+ at most|at most \\d+|PLANS at most|up to \\d+|\\(wrapping\\)"
        + "|\\d+ to \\d+|as long as|while low|more than \\d+|not looked at|don't look at|OUTCOME \\(0, \\d\\)"
        + "|nothing changes then|till the next ACT|numbered from 1 on|may be shorter, or alone|never change"
        + "|else 0|0: none|as they come|No CARDS");
    private static final int PROMISES = 21;

    private static final Check CHECK = new Check("SaysTest");

    private final String document;
    private final boolean[] isSaid;

    private SaysTest(String document) {
        this.document = document;
        isSaid = new boolean[document.length()];
    }

    /** Runs from the project's own folder, as .ci/run does. */
    public static void main(String[] args) throws IOException {
        SaysTest test = new SaysTest(Files.readString(Path.of("../shared/DOC.md")).replaceAll("\\s+", " "));
        boolean[] hasTest = new boolean[PROMISES + 1];
        for (Class<?> tests : TESTS) {
            for (Method method : Edges.testsOf(tests)) {
                hasTest[Edges.promiseOf(method)] = true;
                for (String words : method.getAnnotation(Says.class).value()) {
                    test.say(method.getName(), Edges.promiseOf(method), words);
                }
            }
        }
        for (int promise = 1; promise <= PROMISES; promise++) {
            CHECK.due("promise " + promise + " has a test", hasTest[promise] ? 1 : 0, 1);
        }
        test.lookForWhatIsNotSaid();
        CHECK.finish();
    }

    private void say(String test, int promise, String words) {
        String next = promise == PROMISES ? "## Not promised" : "## Promise " + (promise + 1) + ":";
        int said = sayWithin("## Promise " + promise + ":", next, words)
            + sayWithin("## What it is", "## The public face", words)
            + sayWithin("## Terms", "## Promise 1:", words);
        CHECK.due(test + " finds its words: " + words, said > 0 ? 1 : 0, 1);
    }

    /** How often the words stand between two headings. */
    private int sayWithin(String heading, String nextHeading, String words) {
        int end = document.indexOf(nextHeading);
        int times = 0;
        int at = document.indexOf(words, document.indexOf(heading));
        while (at >= 0 && at < end) {
            times++;
            Arrays.fill(isSaid, at, at + words.length(), true);
            at = document.indexOf(words, at + 1);
        }
        return times;
    }

    private void lookForWhatIsNotSaid() {
        Matcher found = BOUNDARY.matcher(document);
        int faceBegins = document.indexOf("## The public face");
        int faceEnds = document.indexOf("## Terms");
        int promisesEnd = document.indexOf("## Not promised");
        while (found.find() && found.start() < promisesEnd) {
            boolean isOfFace = found.start() > faceBegins && found.start() < faceEnds;
            if (!isOfFace) {
                String around = document.substring(Math.max(0, found.start() - 30), found.end());
                CHECK.due("a test says: .." + around, isSaid[found.start()] && isSaid[found.end() - 1] ? 1 : 0, 1);
            }
        }
    }
}
