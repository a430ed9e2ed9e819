import java.util.ArrayList;
import java.util.Arrays;
import java.util.Comparator;
import java.util.HashMap;
import java.util.List;
import java.util.Map;

/**
 * The document a second time, written in another way than the program: hooks throw real exceptions,
 * and an act that throws is undone from copies that were taken ahead of it.
 */
final class PlainModel {
    private static final int BAD = -1, NO = -2, FULL = -3, NONE = -4;

    private static final class Failure extends Exception {
        private static final long serialVersionUID = 1L;
        final int number;
        final int hook;
        final int call;

        Failure(int number, int hook, int call) {
            this.number = number;
            this.hook = hook;
            this.call = call;
        }
    }

    private interface Body {
        void run() throws Failure;
    }

    private record Card(int weight, int mark) { }

    private record Plan(int what, int f) { }

    private record Tray(int kind, int hook, List<Integer> cards) { }

    private static final class Hook {
        int kind;
        int a;
        int calls;
        int actCalls;
        int misuses;
        final Map<Integer, Plan> plans = new HashMap<>();
    }

    private final List<Card> cards = new ArrayList<>();
    private final List<Hook> hooks = new ArrayList<>();
    private final List<Tray> trays = new ArrayList<>();
    private Failure failure = null;
    private int handled = 0;
    private int acts = 0;
    private int thrownAt = 0;

    int card(int weight, int mark) {
        if (mark < 0 || mark > 99) {
            return BAD;
        }
        if (cards.size() == 120) {
            return FULL;
        }
        cards.add(new Card(weight, mark));
        return cards.size() - 1;
    }

    long told(int card, int what) {
        if (isNone(cards, card) || what < 0 || what > 1) {
            return -10000000000L;
        }
        return what == 0 ? cards.get(card).weight : cards.get(card).mark;
    }

    int hook(int kind, int a) {
        if (kind < 0 || kind > 4) {
            return BAD;
        }
        if (hooks.size() == 8) {
            return FULL;
        }
        Hook made = new Hook();
        made.kind = kind;
        made.a = a;
        hooks.add(made);
        return hooks.size() - 1;
    }

    int plan(int hook, int n, int what, int f) {
        if (isNone(hooks, hook) || n < 1 || n > 1000 || what < 0 || what > 2 || (what == 0 && (f < 1 || f > 99))) {
            return BAD;
        }
        Hook planned = hooks.get(hook);
        int call = planned.calls + n;
        if (!planned.plans.containsKey(call) && standing() == 12) {
            return FULL;
        }
        planned.plans.put(call, new Plan(what, f));
        return standing();
    }

    int clearPlans() {
        int gone = standing();
        hooks.forEach(hook -> hook.plans.clear());
        return gone;
    }

    int about(int hook, int what) {
        if (isNone(hooks, hook) || what < 0 || what > 4) {
            return BAD;
        }
        Hook h = hooks.get(hook);
        return new int[] {h.kind, h.calls, h.actCalls, h.misuses, h.plans.size()}[what];
    }

    int tray(int kind, int hook) {
        if (kind < 0 || kind > 2 || (kind > 0 && isNone(hooks, hook))) {
            return BAD;
        }
        if (kind > 0 && hooks.get(hook).kind > 2) {
            return NO;
        }
        if (trays.size() == 6) {
            return FULL;
        }
        trays.add(new Tray(kind, kind == 0 ? NONE : hook, new ArrayList<>()));
        return trays.size() - 1;
    }

    int put(int tray, int card) {
        if (isNone(trays, tray) || isNone(cards, card)) {
            return BAD;
        }
        Tray t = trays.get(tray);
        if (t.cards.size() == 40) {
            return FULL;
        }
        return undoneIfThrown(() -> place(t, t.cards, card)) ? 0 : 1;
    }

    int take(int tray, int place) {
        if (isNone(trays, tray) || isNone(trays.get(tray).cards, place)) {
            return BAD;
        }
        return undoneIfThrown(() -> remove(trays.get(tray), place)) ? 0 : 1;
    }

    int first(int tray) {
        if (isNone(trays, tray) || trays.get(tray).cards.isEmpty()) {
            return BAD;
        }
        int card = trays.get(tray).cards.get(0);
        return undoneIfThrown(() -> remove(trays.get(tray), 0)) ? card : -11;
    }

    int find(int tray, int card) {
        if (isNone(trays, tray) || isNone(cards, card)) {
            return BAD;
        }
        Tray t = trays.get(tray);
        if (t.kind != 1) {
            return NO;
        }
        int[] place = {-11};
        undoneIfThrown(() -> place[0] = halve(t.cards, t.hook, card, 0, t.cards.size()));
        return place[0];
    }

    int sort(int tray, int hook) {
        if (isNone(trays, tray) || isNone(hooks, hook)) {
            return BAD;
        }
        List<Integer> row = trays.get(tray).cards;
        if (trays.get(tray).kind != 0 || hooks.get(hook).kind > 2) {
            return NO;
        }
        return undoneIfThrown(() -> {
            List<List<Integer>> pieces = new ArrayList<>();
            row.forEach(card -> pieces.add(List.of(card)));
            while (pieces.size() > 1) {
                for (int i = 0; i + 1 < pieces.size(); i++) {
                    pieces.set(i, merged(hook, pieces.get(i), pieces.remove(i + 1)));
                }
            }
            if (!pieces.isEmpty()) {
                refill(row, pieces.get(0));
            }
        }) ? 0 : 1;
    }

    int filter(int tray, int hook) {
        if (isNone(trays, tray) || isNone(hooks, hook)) {
            return BAD;
        }
        if (hooks.get(hook).kind != 3) {
            return NO;
        }
        Tray t = trays.get(tray);
        if (t.kind == 2) {
            return undoneIfThrown(() -> {
                removeUnkept(t.cards, hook);
                List<Integer> kept = List.copyOf(t.cards);
                t.cards.clear();
                for (int card : kept) {
                    place(t, t.cards, card);
                }
            }) ? 0 : 1;
        }
        return done(() -> removeUnkept(t.cards, hook)) ? 0 : 2;
    }

    int change(int tray, int hook) {
        if (isNone(trays, tray) || isNone(hooks, hook)) {
            return BAD;
        }
        Tray t = trays.get(tray);
        if (t.kind != 0 || hooks.get(hook).kind != 4) {
            return NO;
        }
        if (cards.size() + t.cards.size() > 120) {
            return FULL;
        }
        return done(() -> {
            for (int i = 0; i < t.cards.size(); i++) {
                Card old = cards.get(t.cards.get(i));
                boolean lies = call(hook);
                int a = hooks.get(hook).a;
                cards.add(new Card((int) (lies ? (long) old.weight - a : (long) old.weight + a), old.mark));
                t.cards.set(i, cards.size() - 1);
                handled++;
            }
        }) ? 0 : 2;
    }

    int all(int from, int to) {
        if (isNone(trays, from) || isNone(trays, to) || from == to) {
            return BAD;
        }
        Tray f = trays.get(from);
        Tray t = trays.get(to);
        if (f.kind != t.kind || f.hook != t.hook) {
            return NO;
        }
        if (f.cards.size() + t.cards.size() > 40) {
            return FULL;
        }
        return undoneIfThrown(() -> {
            if (t.kind == 1) {
                refill(t.cards, merged(t.hook, t.cards, f.cards));
            } else {
                for (int card : f.cards) {
                    place(t, t.cards, card);
                }
            }
            f.cards.clear();
        }) ? 0 : 1;
    }

    int at(int tray, int place) {
        if (isNone(trays, tray) || place < 0) {
            return BAD;
        }
        return isNone(trays.get(tray).cards, place) ? NONE : trays.get(tray).cards.get(place);
    }

    int whole(int tray, int what) {
        if (isNone(trays, tray) || what < 0 || what > 3) {
            return BAD;
        }
        Tray t = trays.get(tray);
        int whole = 1;
        for (int i = 1; i < t.cards.size() && t.kind > 0; i++) {
            int ahead = t.cards.get(t.kind == 1 ? i - 1 : (i - 1) / 2);
            if (truly(t.hook).compare(cards.get(t.cards.get(i)), cards.get(ahead)) < 0) {
                whole = 0;
            }
        }
        return new int[] {t.kind, t.cards.size(), t.hook, whole}[what];
    }

    int same(int tray, int other) {
        if (isNone(trays, tray) || isNone(trays, other)) {
            return BAD;
        }
        return trays.get(tray).cards.equals(trays.get(other).cards) ? 1 : 0;
    }

    int thrown(int what) {
        if (what < 0 || what > 3) {
            return BAD;
        }
        int[] none = {0, NONE, 0, handled};
        return (failure == null ? none : new int[] {failure.number, failure.hook, failure.call, handled})[what];
    }

    int count(int what) {
        if (what < 0 || what > 5) {
            return BAD;
        }
        return new int[] {cards.size(), hooks.size(), trays.size(), standing(), acts, thrownAt}[what];
    }

    private static boolean isNone(List<?> things, int number) {
        return number < 0 || number >= things.size();
    }

    private static void refill(List<Integer> row, List<Integer> by) {
        List<Integer> copy = List.copyOf(by);
        row.clear();
        row.addAll(copy);
    }

    private int standing() {
        return hooks.stream().mapToInt(hook -> hook.plans.size()).sum();
    }

    private boolean done(Body body) {
        acts++;
        failure = null;
        handled = 0;
        hooks.forEach(hook -> hook.actCalls = 0);
        try {
            body.run();
            return true;
        } catch (Failure thrown) {
            failure = thrown;
            thrownAt++;
            return false;
        }
    }

    private boolean undoneIfThrown(Body body) {
        List<List<Integer>> before = trays.stream().map(tray -> List.copyOf(tray.cards)).toList();
        if (done(body)) {
            return true;
        }
        for (int i = 0; i < before.size(); i++) {
            refill(trays.get(i).cards, before.get(i));
        }
        return false;
    }

    /** Whether this call lies. */
    private boolean call(int hook) throws Failure {
        Hook asked = hooks.get(hook);
        asked.calls++;
        asked.actCalls++;
        Plan plan = asked.plans.remove(asked.calls);
        if (plan == null) {
            return false;
        }
        if (plan.what == 0) {
            throw new Failure(plan.f, hook, asked.calls);
        }
        if (plan.what == 2) {
            asked.misuses++;
        }
        return plan.what == 1;
    }

    private Comparator<Card> truly(int hook) {
        Comparator<Card> byWeight = Comparator.comparingInt(Card::weight);
        return List.of(byWeight, byWeight.reversed(), Comparator.comparingInt(Card::mark).thenComparing(byWeight))
                .get(hooks.get(hook).kind);
    }

    private boolean isAhead(int hook, int one, int other) throws Failure {
        Comparator<Card> order = truly(hook);
        if (call(hook)) {
            order = order.reversed();
        }
        return order.compare(cards.get(one), cards.get(other)) < 0;
    }

    private int halve(List<Integer> row, int hook, int card, int low, int high) throws Failure {
        if (low >= high) {
            return low;
        }
        int middle = (low + high) >> 1;
        return isAhead(hook, card, row.get(middle))
                ? halve(row, hook, card, low, middle)
                : halve(row, hook, card, middle + 1, high);
    }

    private void place(Tray tray, List<Integer> row, int card) throws Failure {
        if (tray.kind == 1) {
            row.add(halve(row, tray.hook, card, 0, row.size()), card);
            return;
        }
        row.add(card);
        if (tray.kind == 2) {
            up(row, tray.hook, row.size() - 1);
        }
    }

    private boolean up(List<Integer> heap, int hook, int i) throws Failure {
        if (i == 0 || !isAhead(hook, heap.get(i), heap.get((i - 1) / 2))) {
            return false;
        }
        java.util.Collections.swap(heap, i, (i - 1) / 2);
        up(heap, hook, (i - 1) / 2);
        return true;
    }

    private void down(List<Integer> heap, int hook, int i) throws Failure {
        int k = 2 * i + 1;
        if (k >= heap.size()) {
            return;
        }
        if (k + 1 < heap.size() && isAhead(hook, heap.get(k + 1), heap.get(k))) {
            k++;
        }
        if (isAhead(hook, heap.get(k), heap.get(i))) {
            java.util.Collections.swap(heap, i, k);
            down(heap, hook, k);
        }
    }

    private void remove(Tray tray, int place) throws Failure {
        List<Integer> row = tray.cards;
        if (tray.kind != 2) {
            row.remove(place);
            return;
        }
        int last = row.remove(row.size() - 1);
        if (place < row.size()) {
            row.set(place, last);
            if (!up(row, tray.hook, place)) {
                down(row, tray.hook, place);
            }
        }
    }

    private List<Integer> merged(int hook, List<Integer> a, List<Integer> b) throws Failure {
        List<Integer> out = new ArrayList<>();
        int i = 0;
        int j = 0;
        while (i < a.size() && j < b.size()) {
            out.add(isAhead(hook, b.get(j), a.get(i)) ? b.get(j++) : a.get(i++));
        }
        out.addAll(a.subList(i, a.size()));
        out.addAll(b.subList(j, b.size()));
        return out;
    }

    /** Each card goes as soon as it is judged, so that a throw leaves the part ahead of it done. */
    private void removeUnkept(List<Integer> row, int hook) throws Failure {
        for (int i = 0; i < row.size();) {
            boolean lies = call(hook);
            handled++;
            boolean keeps = cards.get(row.get(i)).weight >= hooks.get(hook).a;
            if (keeps != lies) {
                i++;
            } else {
                row.remove(i);
            }
        }
    }

    /** All that can be told, for a message. */
    @Override
    public String toString() {
        int[] failed = {thrown(0), thrown(1), thrown(2)};
        return cards.size() + " cards, trays " + trays + ", failure " + Arrays.toString(failed);
    }
}
