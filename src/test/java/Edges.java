import java.lang.reflect.InvocationTargetException;
import java.lang.reflect.Method;
import java.util.ArrayList;
import java.util.Arrays;
import java.util.Comparator;
import java.util.List;

/** What tests of the document's sentences share: each is a method that bears its promise's number, and says its words. */
abstract class Edges {
    static final int BAD = HookTrays.BAD, NO = HookTrays.NO, FULL = HookTrays.FULL, NONE = HookTrays.NONE;
    static final int THREW = -11;
    static final long NOT_TOLD = -10000000000L;
    static final int LEAST = Integer.MIN_VALUE, GREATEST = Integer.MAX_VALUE;
    static final int ROW = 0, SORTED = 1, HEAP = 2;

    private static final Check CHECK = new Check("Edges");

    static List<Method> testsOf(Class<?> tests) {
        List<Method> found = new ArrayList<>();
        for (Method method : tests.getDeclaredMethods()) {
            if (method.isAnnotationPresent(Says.class)) {
                found.add(method);
            }
        }
        found.sort(Comparator.comparingInt(Edges::promiseOf).thenComparing(Method::getName));
        return found;
    }

    static int promiseOf(Method test) {
        return Integer.parseInt(test.getName().replaceFirst("^promise(\\d+)[A-Z]\\w*$", "$1"));
    }

    static void run(Class<?> tests) throws IllegalAccessException {
        for (Method test : testsOf(tests)) {
            CHECK.begin(tests.getSimpleName() + "." + test.getName());
            try {
                test.invoke(null);
            } catch (InvocationTargetException thrown) {
                CHECK.fail("ended with " + thrown.getCause());
            }
            CHECK.end();
        }
        CHECK.finish();
    }

    static void due(HookTrays x, String call, long want) {
        CHECK.due(call, Calls.ask(x, call), want);
    }

    /** The tray holds just these cards, in this order. */
    static void holds(HookTrays x, int tray, int... cards) {
        due(x, "whole(" + tray + ", 1)", cards.length);
        for (int place = 0; place < cards.length; place++) {
            due(x, "at(" + tray + ", " + place + ")", cards[place]);
        }
        if (cards.length < 40) {
            due(x, "at(" + tray + ", " + cards.length + ")", NONE);
        }
    }

    static void thrown(HookTrays x, int failure, int hook, int call, int handled) {
        due(x, "thrown(0)", failure);
        due(x, "thrown(1)", hook);
        due(x, "thrown(2)", call);
        due(x, "thrown(3)", handled);
    }

    static void noneThrown(HookTrays x) {
        due(x, "thrown(0)", 0);
        due(x, "thrown(1)", NONE);
        due(x, "thrown(2)", 0);
    }

    /** So often the latest act asked hook 0. */
    static void asked(HookTrays x, int times) {
        due(x, "about(0, 2)", times);
    }

    /** The call answers this, and leaves an object that can't be told from one without the call. */
    static void refused(Script script, String call, long want) {
        HookTrays x = script.made();
        due(x, call, want);
        CHECK.like("all that is told after " + call, State.of(x), State.of(script.made()));
    }

    /** The document names no last PLACE: whether NONE or BAD is due behind place 39 is left open here. */
    static void noCardAt(Script script, int place) {
        long answer = Calls.ask(script.made(), "at(0, " + place + ")");
        refused(script, "at(0, " + place + ")", answer == BAD ? BAD : NONE);
    }

    /** 0, 1, .. */
    static int[] upTo(int many) {
        int[] numbers = new int[many];
        for (int i = 0; i < many; i++) {
            numbers[i] = i;
        }
        return numbers;
    }

    /** 10, 20, .. */
    static int[] tens(int many) {
        int[] weights = new int[many];
        for (int i = 0; i < many; i++) {
            weights[i] = 10 * (i + 1);
        }
        return weights;
    }

    static int[] alike(int many) {
        int[] weights = new int[many];
        Arrays.fill(weights, 5);
        return weights;
    }

    /** Those hooks, a tray 0 of a kind by LIGHTER, and a card of each weight put on it in turn. */
    static Script held(int kind, int... weights) {
        return Script.HOOKS.cards(weights).and("tray(" + kind + ", 0)").puts(0, upTo(weights.length));
    }

    /** A tray 0 of a kind by LIGHTER that holds card 0, of weight 5, 40 times. */
    static Script full(int kind) {
        return Script.HOOKS.cards(5).and("tray(" + kind + ", 0)").times(40, "put(0, 0)");
    }
}
