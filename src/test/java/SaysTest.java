import java.io.IOException;
import java.lang.reflect.Method;
import java.nio.file.Files;
import java.nio.file.Path;
import java.util.Arrays;
import java.util.regex.Matcher;
import java.util.regex.Pattern;

/**
 * Each test with @Says says words that stand in the document, in its promise's part or in the common parts;
 * and no word of these parts is left without a test that says it.
 */
public final class SaysTest {
    private static final Class<?>[] TESTS = {CardsHooksEdgesTest.class, TraysEdgesTest.class,
        WholeTraysEdgesTest.class, HappenedEdgesTest.class, SentencesTest.class};
    /**
     * What no test need say: the title, headings, the face and each promise's signature; what the interface says
     * ahead of groups of calls (FaceTest looks for all of these); signs that part the text; what is not promised.
     */
    private static final Pattern NOT_TO_BE_SAID = Pattern.compile("# HookTrays ## What it is"
        + "|## The public face .*## Terms|## Promise \\d+: [\\w ]+`[^`]+`:|Ahead of the calls .*? interface says: ---- "
        + "[^.]*\\.|======== \\d|```text|## Not promised .*");
    private static final int PROMISES = 21;

    private static final Check CHECK = new Check("SaysTest");

    private final String document;
    private final boolean[] isSaid;

    private SaysTest(String document) {
        this.document = document;
        isSaid = new boolean[document.length()];
    }

    /** Runs from the project's own folder, as .ci/run does. */
    public static void main(String[] args) throws IOException {
        SaysTest test = new SaysTest(Files.readString(Path.of("../shared/DOC.md")).replaceAll("\\s+", " "));
        boolean[] hasTest = new boolean[PROMISES + 1];
        for (Class<?> tests : TESTS) {
            for (Method method : Edges.testsOf(tests)) {
                hasTest[Edges.promiseOf(method)] = true;
                for (String words : method.getAnnotation(Says.class).value()) {
                    test.say(method.getName(), Edges.promiseOf(method), words);
                }
            }
        }
        for (int promise = 1; promise <= PROMISES; promise++) {
            CHECK.due("promise " + promise + " has a test", hasTest[promise] ? 1 : 0, 1);
        }
        test.lookForWhatIsNotSaid();
        CHECK.finish();
    }

    private void say(String test, int promise, String words) {
        String next = promise == PROMISES ? "## Not promised" : "## Promise " + (promise + 1) + ":";
        int said = sayWithin("## Promise " + promise + ":", next, words)
            + sayWithin("## What it is", "## The public face", words)
            + sayWithin("## Terms", "## Promise 1:", words);
        CHECK.due(test + " finds its words: " + words, said > 0 ? 1 : 0, 1);
    }

    /** How often the words stand between two headings. */
    private int sayWithin(String heading, String nextHeading, String words) {
        int end = document.indexOf(nextHeading);
        int times = 0;
        int at = document.indexOf(words, document.indexOf(heading));
        while (at >= 0 && at < end) {
            times++;
            Arrays.fill(isSaid, at, at + words.length(), true);
            at = document.indexOf(words, at + 1);
        }
        return times;
    }

    private void lookForWhatIsNotSaid() {
        Matcher except = NOT_TO_BE_SAID.matcher(document);
        boolean[] isExcepted = new boolean[document.length()];
        while (except.find()) {
            Arrays.fill(isExcepted, except.start(), except.end(), true);
        }
        Matcher word = Pattern.compile("[^ ]*\\w[^ ]*").matcher(document);
        while (word.find()) {
            if (!isExcepted[word.start()]) {
                String before = document.substring(Math.max(0, word.start() - 30), word.start());
                CHECK.due("a test says \"" + word.group() + "\" behind .." + before, isSaid(word) ? 1 : 0, 1);
            }
        }
    }

    /** But for the signs at its end, which may part what two tests say. */
    private boolean isSaid(Matcher word) {
        int end = word.start() + word.group().replaceFirst("[^\\w)]+$", "").length();
        for (int i = word.start(); i < end; i++) {
            if (!isSaid[i]) {
                return false;
            }
        }
        return true;
    }
}
