import java.util.Arrays;
import java.util.Map;
import java.util.TreeMap;

/** Long runs of calls, the same ones each time, answered by the program and by the plain model. */
public final class ModelTest {
    private static final int RUNS = 1000;
    private static final int CALLS_OF_A_RUN = 512;
    private static final String[] NAMES = {"card", "told", "hook", "plan", "clearPlans", "about", "tray", "put",
        "take", "first", "find", "sort", "filter", "change", "all", "at", "whole", "same", "thrown", "count"};
    /** How often each is called: the acts and plans the most. */
    private static final int[] SHARES = {6, 3, 3, 14, 0, 6, 3, 30, 6, 6, 6, 6, 5, 4, 6, 8, 8, 4, 6, 6};
    /** Answers below 0 and outcomes that must come up, or the runs would tell little. */
    private static final String[] MUST_COME = {"card -1", "card -3", "hook -1", "hook -3", "plan -1", "plan -3",
        "tray -1", "tray -2", "tray -3", "put 0", "put 1", "put -1", "put -3", "take 0", "take 1", "take -1",
        "first -1", "first -11", "find -1", "find -2", "find -11", "sort 0", "sort 1", "sort -1", "sort -2",
        "filter 0", "filter 1", "filter 2", "filter -1", "filter -2", "change 0", "change 2", "change -1",
        "change -2", "change -3", "all 0", "all 1", "all -1", "all -2", "all -3", "at -1", "at -4",
        "whole 0", "whole 1", "whole -1", "whole -4", "same 0", "same 1", "same -1", "thrown -1", "thrown -4",
        "count -1"};

    /** Numbers that come in place of any argument: no call may throw, whatever it is given. */
    private static final int[] FAR_OFF = {Integer.MIN_VALUE, Integer.MIN_VALUE + 1, -1000000, -2, 7, 40, 41, 100, 120,
        1000, 1001, Integer.MAX_VALUE - 1, Integer.MAX_VALUE};

    private static final Check CHECK = new Check("ModelTest");
    private static final Map<String, Integer> SEEN = new TreeMap<>();

    private final HookTrays program;
    private final PlainModel model;
    private final int spread;
    private final int fill;
    private long state;

    private ModelTest(int run) {
        program = new HookTrays();
        model = new PlainModel();
        state = 0x9E3779B97F4A7C15L * (run + 1);
        spread = run % 3 == 0 ? 4 : run % 3 == 1 ? 50 : Integer.MAX_VALUE;
        fill = run % 4;
    }

    public static void main(String[] args) {
        for (int run = 0; run < RUNS && CHECK.isRight(); run++) {
            new ModelTest(run).run(run);
        }
        for (String answer : MUST_COME) {
            CHECK.due("came up: " + answer, SEEN.containsKey(answer) ? 1 : 0, 1);
        }
        CHECK.finish();
    }

    private void run(int run) {
        int calls = prepare();
        for (; calls < CALLS_OF_A_RUN && CHECK.isRight(); calls++) {
            int method = next(100) == 0 ? 4 : drawn();
            int[] a = arguments(method);
            makeFarOff(method, a);
            String call = "run " + run + ", call " + (calls + 1) + ": " + NAMES[method] + Arrays.toString(a);
            long got = Calls.ask(program, NAMES[method], a);
            CHECK.due(call, got, ofModel(method, a));
            SEEN.merge(NAMES[method] + " " + got, 1, Integer::sum);
        }
        if (!CHECK.isRight()) {
            System.out.println("the model then: " + model);
        }
    }

    /** Some runs begin with much on their trays, so that the limits are come to within 512 calls. */
    private int prepare() {
        int calls = 0;
        for (int kind = 0; kind < 5; kind++, calls++) {
            int a = kind == 3 ? next(5) : next(7) - 3;
            due(program.hook(kind, a), model.hook(kind, a));
        }
        for (int i = 0; i < 20 + 30 * fill; i++, calls++) {
            int weight = weight();
            due(program.card(weight, i % 5), model.card(weight, i % 5));
        }
        int[] kinds = {0, 1, 2, 0, 1, 2};
        int like = next(3);
        for (int i = 0; i < 4 + next(3); i++, calls++) {
            due(program.tray(kinds[i], like), model.tray(kinds[i], like));
        }
        for (int i = 0; i < 40 * fill; i++, calls++) {
            int tray = next(4);
            int card = next(20);
            due(program.put(tray, card), model.put(tray, card));
        }
        return calls;
    }

    private static void due(int got, int want) {
        CHECK.due("while preparing", got, want);
    }

    /** The model is asked what there is, so that the program has no more than its 512 calls. */
    private int[] arguments(int method) {
        int tray = around(model.count(2));
        int card = around(model.count(0));
        int hook = around(model.count(1));
        int place = next(4) == 0 ? next(41) - 1 : next(Math.max(1, model.whole(tray, 1) + 1));
        switch (NAMES[method]) {
            case "card": return new int[] {weight(), next(20) == 0 ? 100 * next(2) - next(2) : next(100)};
            case "told": return new int[] {card, around(2)};
            case "hook": return new int[] {around(5), next(9) - 4};
            case "plan": return new int[] {hook, next(20) == 0 ? 1001 * next(2) : 1 + next(next(2) == 0 ? 3 : 30),
                next(20) == 0 ? next(5) - 1 : next(3), next(20) == 0 ? 100 * next(2) : 1 + next(99)};
            case "clearPlans": return new int[] {};
            case "about": return new int[] {hook, around(5)};
            case "tray": return new int[] {around(3), hook};
            case "put": case "find": return new int[] {tray, card};
            case "take": case "at": return new int[] {tray, place};
            case "first": return new int[] {tray};
            case "sort": return new int[] {tray, next(10) == 0 ? hook : next(3)};
            case "filter": return new int[] {tray, next(10) == 0 ? hook : 3};
            case "change": return new int[] {tray, next(10) == 0 ? hook : 4};
            case "all": case "same": return new int[] {tray, around(model.count(2))};
            case "whole": return new int[] {tray, around(4)};
            case "thrown": return new int[] {around(4)};
            default: return new int[] {around(6)};
        }
    }

    /** Now and then. What at() answers behind place 39 is left open, as in Edges.noCardAt(). */
    private void makeFarOff(int method, int[] a) {
        if (next(25) == 0 && a.length > 0) {
            a[next(a.length)] = FAR_OFF[next(FAR_OFF.length)];
        }
        if (NAMES[method].equals("at")) {
            a[1] = Math.min(a[1], 39);
        }
    }

    private long ofModel(int method, int[] a) {
        int p = a.length > 0 ? a[0] : 0;
        int q = a.length > 1 ? a[1] : 0;
        switch (NAMES[method]) {
            case "card": return model.card(p, q);
            case "told": return model.told(p, q);
            case "hook": return model.hook(p, q);
            case "plan": return model.plan(p, q, a[2], a[3]);
            case "clearPlans": return model.clearPlans();
            case "about": return model.about(p, q);
            case "tray": return model.tray(p, q);
            case "put": return model.put(p, q);
            case "take": return model.take(p, q);
            case "first": return model.first(p);
            case "find": return model.find(p, q);
            case "sort": return model.sort(p, q);
            case "filter": return model.filter(p, q);
            case "change": return model.change(p, q);
            case "all": return model.all(p, q);
            case "at": return model.at(p, q);
            case "whole": return model.whole(p, q);
            case "same": return model.same(p, q);
            case "thrown": return model.thrown(p);
            default: return model.count(p);
        }
    }

    private int drawn() {
        int sum = 0;
        for (int share : SHARES) {
            sum += share;
        }
        int left = next(sum);
        int method = 0;
        while (left >= SHARES[method]) {
            left -= SHARES[method];
            method++;
        }
        return method;
    }

    private int weight() {
        int edge = next(20);
        if (edge == 0) {
            return Integer.MIN_VALUE;
        }
        return edge == 1 ? Integer.MAX_VALUE : next(spread) - spread / 2;
    }

    /** Mostly a number of one of so many things, now and then one just beside. */
    private int around(int many) {
        return next(16) == 0 ? next(2) * (many + 1) - 1 : next(Math.max(1, many));
    }

    /** 0 to below - 1, from a sequence that is always the same. */
    private int next(int below) {
        state ^= state << 13;
        state ^= state >>> 7;
        state ^= state << 17;
        return (int) ((state >>> 33) % below);
    }
}
