import java.io.IOException;
import java.lang.reflect.Constructor;
import java.lang.reflect.Field;
import java.lang.reflect.Method;
import java.lang.reflect.Modifier;
import java.nio.file.Files;
import java.nio.file.Path;
import java.util.Set;
import java.util.TreeSet;
import java.util.regex.Pattern;

/** The class has the document's face and no more, and its text keeps clear of words that LANGUAGE.md rules out. */
public final class FaceTest {
    private static final Check CHECK = new Check("FaceTest");
    private static final Set<String> METHODS = Set.of("int card(int,int)", "long told(int,int)", "int hook(int,int)",
        "int plan(int,int,int,int)", "int clearPlans()", "int about(int,int)", "int tray(int,int)",
        "int put(int,int)", "int take(int,int)", "int first(int)", "int find(int,int)", "int sort(int,int)",
        "int filter(int,int)", "int change(int,int)", "int all(int,int)", "int at(int,int)", "int whole(int,int)",
        "int same(int,int)", "int thrown(int)", "int count(int)");
    private static final String[] RULED_OUT = {"\\bthrow\\b", "\\btry\\b", "\\bcatch\\b", "\\bsynchronized\\b",
        "\\bassert\\b", "\\bimport\\b", "\\bpackage\\b", "->", "::", "Exact\\b", "\\bObject\\b"};

    public static void main(String[] args) throws IOException {
        CHECK.due("the class is public and final", HookTrays.class.getModifiers(), Modifier.PUBLIC | Modifier.FINAL);
        methods();
        fields();
        constructors();
        text();
        CHECK.finish();
    }

    private static void methods() {
        Set<String> found = new TreeSet<>();
        Set<String> publicNames = new TreeSet<>();
        for (Method method : HookTrays.class.getDeclaredMethods()) {
            if (Modifier.isPublic(method.getModifiers())) {
                found.add(signature(method));
                publicNames.add(method.getName());
            }
        }
        for (Method method : HookTrays.class.getDeclaredMethods()) {
            boolean isPublic = Modifier.isPublic(method.getModifiers());
            boolean isPrivate = Modifier.isPrivate(method.getModifiers());
            CHECK.due(method.getName() + " is public or private", isPublic || isPrivate ? 1 : 0, 1);
            CHECK.due(method.getName() + " shares no public one's name",
                    isPrivate && publicNames.contains(method.getName()) ? 1 : 0, 0);
        }
        CHECK.due("methods are the document's: " + found, found.equals(METHODS) ? 1 : 0, 1);
    }

    private static String signature(Method method) {
        StringBuilder text = new StringBuilder();
        for (Class<?> type : method.getParameterTypes()) {
            text.append(text.length() == 0 ? "" : ",").append(type.getName());
        }
        return method.getReturnType().getName() + " " + method.getName() + "(" + text + ")";
    }

    private static void fields() {
        Set<String> found = new TreeSet<>();
        for (Field field : HookTrays.class.getDeclaredFields()) {
            int modifiers = field.getModifiers();
            if (!Modifier.isPrivate(modifiers)) {
                found.add(Modifier.toString(modifiers) + " " + field.getType().getName() + " " + field.getName());
            }
            CHECK.due(field.getName() + " is final, if it is static",
                    Modifier.isStatic(modifiers) && !Modifier.isFinal(modifiers) ? 1 : 0, 0);
        }
        Set<String> due = Set.of("public static final int BAD", "public static final int NO",
            "public static final int FULL", "public static final int NONE");
        CHECK.due("constants are the document's: " + found, found.equals(due) ? 1 : 0, 1);
        CHECK.due("BAD", HookTrays.BAD, -1);
        CHECK.due("NO", HookTrays.NO, -2);
        CHECK.due("FULL", HookTrays.FULL, -3);
        CHECK.due("NONE", HookTrays.NONE, -4);
    }

    private static void constructors() {
        Constructor<?>[] found = HookTrays.class.getDeclaredConstructors();
        CHECK.due("constructors", found.length, 1);
        CHECK.due("its parameters", found[0].getParameterCount(), 0);
        CHECK.due("it is public", found[0].getModifiers(), Modifier.PUBLIC);
    }

    /** Runs from the project's own folder, as .ci/run does. */
    private static void text() throws IOException {
        String source = Files.readString(Path.of("src/main/java/HookTrays.java"));
        String code = source.replaceAll("(?s)/\\*.*?\\*/", "").replaceAll("//[^\n]*", "");
        for (String word : RULED_OUT) {
            CHECK.due("holds " + word, Pattern.compile(word).matcher(code).find() ? 1 : 0, 0);
        }
    }
}
