import java.io.IOException;
import java.lang.reflect.Constructor;
import java.lang.reflect.Field;
import java.lang.reflect.Method;
import java.lang.reflect.Modifier;
import java.nio.file.Files;
import java.nio.file.Path;
import java.util.Set;
import java.util.TreeSet;
import java.util.regex.Matcher;
import java.util.regex.Pattern;

/** The class has the document's face and no more, and keeps to what can be seen of LANGUAGE.md's rules from outside. */
public final class FaceTest {
    private static final Check CHECK = new Check("FaceTest");
    private static final Set<String> METHODS = Set.of("int card(int,int)", "long told(int,int)", "int hook(int,int)",
        "int plan(int,int,int,int)", "int clearPlans()", "int about(int,int)", "int tray(int,int)",
        "int put(int,int)", "int take(int,int)", "int first(int)", "int find(int,int)", "int sort(int,int)",
        "int filter(int,int)", "int change(int,int)", "int all(int,int)", "int at(int,int)", "int whole(int,int)",
        "int same(int,int)", "int thrown(int)", "int count(int)");
    private static final String[] RULED_OUT = {"\\bthrow\\b", "\\btry\\b", "\\bcatch\\b", "\\bsynchronized\\b",
        "\\bassert\\b", "\\bimport\\b", "\\bpackage\\b", "->", "::", "Exact\\b", "\\bObject\\b", "\\bstatic \\{",
        "\\bString\\b", "\\bdouble\\b", "\\bfloat\\b", "\\] ?\\["};
    /** All that the class uses of the library; rule 4 allows it. */
    private static final Set<String> LIBRARY = Set.of("Math.min", "Integer.compare");
    private static final String[][] GROUPS = {
        {"cards, hooks", "card", "told", "hook", "plan", "clearPlans", "about"},
        {"trays", "tray", "put", "take", "first", "find", "sort", "filter", "change", "all", "at", "whole", "same"},
        {"what happened", "thrown", "count"}};
    private static final int MOST_PARAMETERS = 7, MOST_LINES = 60, MOST_CLASSES = 12, MOST_FIELDS = 20;

    /** Runs from the project's own folder, as .ci/run does. */
    public static void main(String[] args) throws IOException {
        CHECK.due("the class is public and final", HookTrays.class.getModifiers(), Modifier.PUBLIC | Modifier.FINAL);
        methods();
        fields();
        constructors();
        classesInside();
        String source = Files.readString(Path.of("src/main/java/HookTrays.java"));
        text(source.replaceAll("(?s)/\\*.*?\\*/", "").replaceAll("//[^\n]*", ""));
        groups(source);
        lengths(source);
        CHECK.finish();
    }

    private static void methods() {
        Set<String> found = new TreeSet<>();
        Set<String> publicNames = new TreeSet<>();
        for (Method method : HookTrays.class.getDeclaredMethods()) {
            if (Modifier.isPublic(method.getModifiers())) {
                found.add(signature(method));
                publicNames.add(method.getName());
            }
        }
        for (Method method : HookTrays.class.getDeclaredMethods()) {
            boolean isPublic = Modifier.isPublic(method.getModifiers());
            boolean isPrivate = Modifier.isPrivate(method.getModifiers());
            CHECK.due(method.getName() + " is public or private", isPublic || isPrivate ? 1 : 0, 1);
            CHECK.due(method.getName() + " shares no public one's name",
                    isPrivate && publicNames.contains(method.getName()) ? 1 : 0, 0);
        }
        CHECK.due("methods are the document's: " + found, found.equals(METHODS) ? 1 : 0, 1);
    }

    private static String signature(Method method) {
        StringBuilder text = new StringBuilder();
        for (Class<?> type : method.getParameterTypes()) {
            text.append(text.length() == 0 ? "" : ",").append(type.getName());
        }
        return method.getReturnType().getName() + " " + method.getName() + "(" + text + ")";
    }

    private static void fields() {
        Set<String> found = new TreeSet<>();
        for (Field field : HookTrays.class.getDeclaredFields()) {
            int modifiers = field.getModifiers();
            if (!Modifier.isPrivate(modifiers)) {
                found.add(Modifier.toString(modifiers) + " " + field.getType().getName() + " " + field.getName());
            }
            CHECK.due(field.getName() + " is final, if it is static",
                    Modifier.isStatic(modifiers) && !Modifier.isFinal(modifiers) ? 1 : 0, 0);
        }
        Set<String> due = Set.of("public static final int BAD", "public static final int NO",
            "public static final int FULL", "public static final int NONE");
        CHECK.due("constants are the document's: " + found, found.equals(due) ? 1 : 0, 1);
        CHECK.due("BAD", HookTrays.BAD, -1);
        CHECK.due("NO", HookTrays.NO, -2);
        CHECK.due("FULL", HookTrays.FULL, -3);
        CHECK.due("NONE", HookTrays.NONE, -4);
    }

    private static void constructors() {
        Constructor<?>[] found = HookTrays.class.getDeclaredConstructors();
        CHECK.due("constructors", found.length, 1);
        CHECK.due("its parameters", found[0].getParameterCount(), 0);
        CHECK.due("it is public", found[0].getModifiers(), Modifier.PUBLIC);
    }

    private static void classesInside() {
        Class<?>[] inside = HookTrays.class.getDeclaredClasses();
        CHECK.due("some twelve classes at most", inside.length < MOST_CLASSES ? 1 : 0, 1);
        limits(HookTrays.class);
        for (Class<?> c : inside) {
            CHECK.due(c + " is static", Modifier.isStatic(c.getModifiers()) ? 1 : 0, 1);
            CHECK.due(c + " is not to be seen", c.getModifiers() & (Modifier.PUBLIC | Modifier.PROTECTED), 0);
            CHECK.due(c + " has no class inside", c.getDeclaredClasses().length, 0);
            limits(c);
        }
    }

    private static void limits(Class<?> c) {
        int held = 0;
        for (Field field : c.getDeclaredFields()) {
            held += Modifier.isStatic(field.getModifiers()) ? 0 : 1;
        }
        CHECK.due(c + " has few fields", held <= MOST_FIELDS ? 1 : 0, 1);
        for (Method method : c.getDeclaredMethods()) {
            CHECK.due(method + " takes few parameters", method.getParameterCount() <= MOST_PARAMETERS ? 1 : 0, 1);
        }
    }

    private static void text(String code) {
        for (String word : RULED_OUT) {
            CHECK.due("holds " + word, Pattern.compile(word).matcher(code).find() ? 1 : 0, 0);
        }
        Matcher used = Pattern.compile("\\b[A-Z]\\w*\\.\\w+").matcher(code);
        while (used.find()) {
            CHECK.due(used.group() + " is of the library that is used", LIBRARY.contains(used.group()) ? 1 : 0, 1);
        }
    }

    /** What the interface says ahead of each group of calls stands there, and the calls in their order behind it. */
    private static void groups(String source) {
        int at = 0;
        for (String[] group : GROUPS) {
            at = follows(source, "// ---- " + group[0] + "\n", at);
            for (int i = 1; i < group.length; i++) {
                at = follows(source, "    public " + (group[i].equals("told") ? "long " : "int ") + group[i] + "(", at);
            }
        }
    }

    private static int follows(String source, String text, int behind) {
        int found = source.indexOf(text, behind);
        CHECK.due(text.trim() + " stands behind what comes ahead of it", found >= 0 ? 1 : 0, 1);
        return Math.max(found, behind);
    }

    /** A method begins with a line that opens its body, and ends with a brace as far to the right as that line. */
    private static void lengths(String source) {
        Matcher method = Pattern.compile("(?ms)^( +)[\\w\\[\\] ]+\\([^()]*\\) \\{$.*?^\\1\\}$").matcher(source);
        int found = 0;
        while (method.find()) {
            found++;
            long lines = method.group().lines().count();
            CHECK.due(method.group().lines().findFirst().get().trim() + " is short", lines <= MOST_LINES ? 1 : 0, 1);
        }
        CHECK.due("methods are found", found >= METHODS.size() ? 1 : 0, 1);
    }
}
