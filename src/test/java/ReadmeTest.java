import java.io.IOException;
import java.nio.file.Files;
import java.nio.file.Path;
import java.util.Set;
import java.util.TreeSet;
import java.util.regex.Matcher;
import java.util.regex.Pattern;

/** Each call of README.md's examples answers what stands behind it, and README.md tells of every call. */
public final class ReadmeTest {
    private static final Pattern LINE = Pattern.compile("x\\.(\\w+\\([-0-9, ]*\\)); +// (-?\\d+)(?:: .*)?");
    private static final Pattern ROW_OF_CALL = Pattern.compile("(?m)^\\| `(\\w+)\\([\\w, ]*\\)` \\|");
    private static final String MAKES = "HookTrays x = new HookTrays();";
    private static final Set<String> CALLS = Set.of("card", "told", "hook", "plan", "clearPlans", "about", "tray", "put",
        "take", "first", "find", "sort", "filter", "change", "all", "at", "whole", "same", "thrown", "count");

    private static final Check CHECK = new Check("ReadmeTest");

    /** Runs from the project's own folder, as .ci/run does. */
    public static void main(String[] args) throws IOException {
        String readme = Files.readString(Path.of("README.md"));
        int examples = 0;
        Matcher example = Pattern.compile("(?s)```java\\n(.*?)```").matcher(readme);
        while (example.find()) {
            examples++;
            answersOf(example.group(1).split("\n"));
        }
        CHECK.due("examples", examples, 4);
        Set<String> told = new TreeSet<>();
        Matcher row = ROW_OF_CALL.matcher(readme);
        while (row.find()) {
            CHECK.due(row.group(1) + " is told once", told.add(row.group(1)) ? 1 : 0, 1);
        }
        CHECK.due("README.md tells of " + told, told.equals(CALLS) ? 1 : 0, 1);
        CHECK.finish();
    }

    private static void answersOf(String[] lines) {
        CHECK.due("the example begins with " + MAKES, lines[0].equals(MAKES) ? 1 : 0, 1);
        HookTrays x = new HookTrays();
        for (int i = 1; i < lines.length; i++) {
            Matcher line = LINE.matcher(lines[i]);
            if (line.matches()) {
                CHECK.due(lines[i], Calls.ask(x, line.group(1)), Long.parseLong(line.group(2)));
            } else {
                CHECK.fail("can't be read: " + lines[i]);
            }
        }
    }
}
