import java.util.ArrayList;
import java.util.List;

/** The calls that make what a test begins with; none of them may be refused. */
final class Script {
    static final Script EMPTY = new Script(List.of());

    /** Hooks 0 to 4, each of the kind of its number: LIGHTER, HEAVIER, MARKED, KEEPING 4, ADDING 10. */
    static final Script HOOKS = EMPTY.and("hook(0, 0)", "hook(1, 0)", "hook(2, 0)", "hook(3, 4)",
        "hook(4, 10)");

    /**
     * Where much has happened, so that a trace of a refused call would show: those hooks, 4 cards, 5 trays
     * (row, sorted, heap, row, and an empty sorted one), plans, a misuse, and a latest act that threw.
     */
    static final Script BUSY = HOOKS
        .and("card(5, 1)", "card(3, 2)", "card(9, 0)", "card(3, 7)")
        .and("tray(0, 0)", "tray(1, 0)", "tray(2, 0)", "tray(0, 0)", "tray(1, 0)")
        .puts(0, 2, 0, 1).puts(1, 1, 0).puts(2, 1, 0, 2).puts(3, 3)
        .and("plan(0, 1, 2, 0)", "find(1, 0)")
        .and("plan(0, 2, 0, 7)", "plan(0, 6, 2, 0)", "plan(1, 1, 1, 0)", "plan(2, 2, 0, 8)", "plan(4, 2, 0, 9)")
        .and("plan(3, 2, 0, 33)", "plan(3, 4, 0, 11)", "filter(0, 3)");

    private final List<String> calls;

    private Script(List<String> calls) {
        this.calls = calls;
    }

    Script and(String... more) {
        List<String> longer = new ArrayList<>(calls);
        longer.addAll(List.of(more));
        return new Script(longer);
    }

    Script times(int times, String call) {
        Script longer = this;
        for (int i = 0; i < times; i++) {
            longer = longer.and(call);
        }
        return longer;
    }

    /** A card of each weight, with the mark 0. */
    Script cards(int... weights) {
        Script longer = this;
        for (int weight : weights) {
            longer = longer.and("card(" + weight + ", 0)");
        }
        return longer;
    }

    Script puts(int tray, int... cards) {
        Script longer = this;
        for (int card : cards) {
            longer = longer.and("put(" + tray + ", " + card + ")");
        }
        return longer;
    }

    HookTrays made() {
        HookTrays x = new HookTrays();
        for (String call : calls) {
            long answer = Calls.ask(x, call);
            if (answer == HookTrays.BAD || answer == HookTrays.NO || answer == HookTrays.FULL) {
                throw new IllegalStateException(call + " was refused while a test was prepared: " + answer);
            }
        }
        return x;
    }
}
