/** All that an object tells of itself, as text: now, and in the acts that come next. */
final class State {
    private static final int CARDS_TOLD = 20;

    private final HookTrays x;
    private final StringBuilder text = new StringBuilder();

    private State(HookTrays x) {
        this.x = x;
    }

    /** The acts use up plans, so that it shows for which call each of them stood. */
    static String of(HookTrays x) {
        State state = new State(x);
        state.tellAll();
        state.actOnTrays();
        state.tellAll();
        return state.text.toString();
    }

    private void tell(String call) {
        text.append(call).append(": ").append(Calls.ask(x, call)).append('\n');
    }

    private void tellEach(String before, long many) {
        for (int what = 0; what < many; what++) {
            tell(before + what + ")");
        }
    }

    private void tellAll() {
        tellEach("count(", 6);
        tellEach("thrown(", 4);
        long cards = Calls.ask(x, "count(0)");
        long step = 1 + cards / CARDS_TOLD;
        for (long card = 0; card <= cards; card += step) {
            tellEach("told(" + card + ", ", 2);
        }
        long hooks = Calls.ask(x, "count(1)");
        for (int hook = 0; hook < hooks; hook++) {
            tellEach("about(" + hook + ", ", 5);
        }
        long trays = Calls.ask(x, "count(2)");
        for (int tray = 0; tray < trays; tray++) {
            tellEach("whole(" + tray + ", ", 4);
            tellEach("at(" + tray + ", ", Calls.ask(x, "whole(" + tray + ", 1)"));
        }
    }

    private void actOnTrays() {
        long hooks = Calls.ask(x, "count(1)");
        for (int hook = 0; hook < hooks; hook++) {
            act("sort(0, " + hook + ")");
            act("filter(0, " + hook + ")");
            act("change(0, " + hook + ")");
        }
        long trays = Calls.ask(x, "count(2)");
        for (int tray = 0; tray < trays; tray++) {
            act("put(" + tray + ", 0)");
        }
    }

    private void act(String call) {
        tell(call);
        tellEach("thrown(", 3);
    }
}
