/**
 * Trays of cards that stay whole whatever their hooks do.
 *
 * All objects and arrays are made with the object itself; no later call makes any.
 * An act works on a draft, which becomes the tray's row only when no hook threw.
 */
public final class HookTrays {
    public static final int BAD = -1, NO = -2, FULL = -3, NONE = -4;

    private static final long NOT_TOLD = -10000000000L;

    private static final int MOST_CARDS = 120, MOST_HOOKS = 8, MOST_PLANS = 12, MOST_TRAYS = 6, MOST_HELD = 40;
    private static final int LAST_MARK = 99, LAST_FAILURE = 99, LAST_CALL_AHEAD = 1000;

    /** Kinds of hooks. */
    private static final int LIGHTER = 0, HEAVIER = 1, MARKED = 2, KEEPING = 3, ADDING = 4;
    /** What a plan is for, as plan() is told it. */
    private static final int THROWS = 0, LIES = 1, CALLS_BACK = 2;
    /** What a plan does to its call; a number above 0 is the failure that it throws. */
    private static final int AS_EVER = 0, LYING = -1, CALLING_BACK = -2;
    /** Kinds of trays. */
    private static final int ROW = 0, SORTED = 1, HEAP = 2;

    private static final int DONE = 0, UNCHANGED = 1, PART_DONE = 2;
    /** In place of an answer, a place or a card: a hook threw. */
    private static final int THREW = -11;

    private final Desk desk;
    private final Tray[] trays;
    private int trayCount = 0;
    private final Row draft;
    private final Row spare;

    public HookTrays() {
        desk = new Desk();
        trays = new Tray[MOST_TRAYS];
        for (int i = 0; i < MOST_TRAYS; i++) {
            trays[i] = new Tray();
        }
        draft = new Row();
        spare = new Row();
    }

    // ---- cards, hooks

    public int card(int weight, int mark) {
        if (!isWithin(mark, 0, LAST_MARK)) {
            return BAD;
        }
        return desk.deck.add(weight, mark);
    }

    public long told(int card, int what) {
        if (!desk.deck.has(card)) {
            return NOT_TOLD;
        }
        switch (what) {
            case 0: return desk.deck.weightOf(card);
            case 1: return desk.deck.markOf(card);
            default: return NOT_TOLD;
        }
    }

    public int hook(int kind, int a) {
        if (!isWithin(kind, LIGHTER, ADDING)) {
            return BAD;
        }
        return desk.addHook(kind, a);
    }

    public int plan(int hook, int n, int what, int f) {
        if (!desk.hasHook(hook) || !isWithin(n, 1, LAST_CALL_AHEAD) || !isWithin(what, THROWS, CALLS_BACK)) {
            return BAD;
        }
        if (what == THROWS && !isWithin(f, 1, LAST_FAILURE)) {
            return BAD;
        }
        return desk.plans.stand(hook, desk.callsOf(hook) + n, plannedEffect(what, f));
    }

    public int clearPlans() {
        return desk.plans.clear();
    }

    public int about(int hook, int what) {
        if (!desk.hasHook(hook)) {
            return BAD;
        }
        switch (what) {
            case 0: return desk.kindOf(hook);
            case 1: return desk.callsOf(hook);
            case 2: return desk.latestCallsOf(hook);
            case 3: return desk.misusesOf(hook);
            case 4: return desk.plans.standingFor(hook);
            default: return BAD;
        }
    }

    // ---- trays

    public int tray(int kind, int hook) {
        if (!isWithin(kind, ROW, HEAP) || (kind != ROW && !desk.hasHook(hook))) {
            return BAD;
        }
        if (kind != ROW && !desk.compares(hook)) {
            return NO;
        }
        if (trayCount >= MOST_TRAYS) {
            return FULL;
        }
        trays[trayCount].become(kind, kind == ROW ? NONE : hook);
        trayCount++;
        return trayCount - 1;
    }

    public int put(int tray, int card) {
        if (!hasTray(tray) || !desk.deck.has(card)) {
            return BAD;
        }
        Tray onto = trays[tray];
        if (onto.row.size >= MOST_HELD) {
            return FULL;
        }
        desk.beginAct();
        draft.copy(onto.row);
        return keepDraft(onto, placeOnDraft(onto, card));
    }

    public int take(int tray, int place) {
        if (!hasTray(tray) || !trays[tray].row.hasPlace(place)) {
            return BAD;
        }
        desk.beginAct();
        return keepDraft(trays[tray], removeOnDraft(trays[tray], place));
    }

    public int first(int tray) {
        if (!hasTray(tray) || !trays[tray].row.hasPlace(0)) {
            return BAD;
        }
        int gone = trays[tray].row.cardAt(0);
        desk.beginAct();
        int outcome = keepDraft(trays[tray], removeOnDraft(trays[tray], 0));
        return outcome == DONE ? gone : THREW;
    }

    public int find(int tray, int card) {
        if (!hasTray(tray) || !desk.deck.has(card)) {
            return BAD;
        }
        Tray searched = trays[tray];
        if (searched.kind != SORTED) {
            return NO;
        }
        desk.beginAct();
        return searched.row.placeFor(card, desk, searched.hook);
    }

    public int sort(int tray, int hook) {
        if (!hasTray(tray) || !desk.hasHook(hook)) {
            return BAD;
        }
        Tray sorted = trays[tray];
        if (sorted.kind != ROW || !desk.compares(hook)) {
            return NO;
        }
        desk.beginAct();
        draft.copy(sorted.row);
        return keepDraft(sorted, sortDraftAnew(hook));
    }

    public int filter(int tray, int hook) {
        if (!hasTray(tray) || !desk.hasHook(hook)) {
            return BAD;
        }
        if (desk.kindOf(hook) != KEEPING) {
            return NO;
        }
        Tray filtered = trays[tray];
        desk.beginAct();
        boolean judgedAll = judgeOntoDraft(filtered.row, hook);
        if (filtered.kind == HEAP) {
            spare.copy(draft);
            draft.clear();
            return keepDraft(filtered, judgedAll && placeAllOnDraft(filtered, spare));
        }
        filtered.row.copy(draft);
        return judgedAll ? DONE : PART_DONE;
    }

    public int change(int tray, int hook) {
        if (!hasTray(tray) || !desk.hasHook(hook)) {
            return BAD;
        }
        Tray changed = trays[tray];
        if (changed.kind != ROW || desk.kindOf(hook) != ADDING) {
            return NO;
        }
        if (desk.deck.size + changed.row.size > MOST_CARDS) {
            return FULL;
        }
        desk.beginAct();
        return changeCards(changed.row, hook) ? DONE : PART_DONE;
    }

    public int all(int from, int to) {
        if (!hasTray(from) || !hasTray(to) || from == to) {
            return BAD;
        }
        Tray giving = trays[from];
        Tray taking = trays[to];
        if (giving.kind != taking.kind || giving.hook != taking.hook) {
            return NO;
        }
        if (giving.row.size + taking.row.size > MOST_HELD) {
            return FULL;
        }
        desk.beginAct();
        draft.copy(taking.row);
        boolean ready = taking.kind == SORTED
                ? mergeIntoDraft(giving.row, taking.hook)
                : placeAllOnDraft(taking, giving.row);
        int outcome = keepDraft(taking, ready);
        if (outcome == DONE) {
            giving.row.clear();
        }
        return outcome;
    }

    public int at(int tray, int place) {
        if (!hasTray(tray) || place < 0) {
            return BAD;
        }
        return trays[tray].row.cardAt(place);
    }

    public int whole(int tray, int what) {
        if (!hasTray(tray)) {
            return BAD;
        }
        Tray asked = trays[tray];
        switch (what) {
            case 0: return asked.kind;
            case 1: return asked.row.size;
            case 2: return asked.hook;
            case 3: return isWhole(asked) ? 1 : 0;
            default: return BAD;
        }
    }

    public int same(int tray, int other) {
        if (!hasTray(tray) || !hasTray(other)) {
            return BAD;
        }
        return trays[tray].row.isLike(trays[other].row) ? 1 : 0;
    }

    // ---- what happened

    public int thrown(int what) {
        switch (what) {
            case 0: return desk.latest.failure;
            case 1: return desk.latest.hook;
            case 2: return desk.latest.call;
            case 3: return desk.latest.handled;
            default: return BAD;
        }
    }

    public int count(int what) {
        switch (what) {
            case 0: return desk.deck.size;
            case 1: return desk.hookCount;
            case 2: return trayCount;
            case 3: return desk.plans.size;
            case 4: return desk.latest.actsEver;
            case 5: return desk.latest.actsThrownAt;
            default: return BAD;
        }
    }

    // ---- how it is done

    private static boolean isWithin(int number, int least, int most) {
        return number >= least && number <= most;
    }

    private static int plannedEffect(int what, int failure) {
        switch (what) {
            case THROWS: return failure;
            case LIES: return LYING;
            default: return CALLING_BACK;
        }
    }

    private boolean hasTray(int tray) {
        return tray >= 0 && tray < trayCount;
    }

    /** The end of an act that leaves all as it was if a hook threw. */
    private int keepDraft(Tray tray, boolean ready) {
        if (!ready) {
            return UNCHANGED;
        }
        tray.row.copy(draft);
        return DONE;
    }

    /** Puts a card on the draft by the tray's kind; false if a hook threw. */
    private boolean placeOnDraft(Tray tray, int card) {
        if (tray.kind == SORTED) {
            int place = draft.placeFor(card, desk, tray.hook);
            if (place == THREW) {
                return false;
            }
            draft.insert(place, card);
            return true;
        }
        draft.append(card);
        return tray.kind != HEAP || draft.rise(draft.size - 1, desk, tray.hook) != THREW;
    }

    /** The draft becomes the tray's row without the card in a place; false if a hook threw. */
    private boolean removeOnDraft(Tray tray, int place) {
        draft.copy(tray.row);
        if (tray.kind != HEAP) {
            draft.remove(place);
            return true;
        }
        int last = draft.size - 1;
        draft.swap(place, last);
        draft.remove(last);
        if (place == last) {
            return true;
        }
        int reached = draft.rise(place, desk, tray.hook);
        if (reached == place) {
            reached = draft.sink(place, desk, tray.hook);
        }
        return reached != THREW;
    }

    private boolean sortDraftAnew(int hook) {
        int size = draft.size;
        for (int piece = 1; piece < size; piece *= 2) {
            spare.copy(draft);
            draft.clear();
            for (int low = 0; low < size; low += 2 * piece) {
                int middle = Math.min(low + piece, size);
                int high = Math.min(low + 2 * piece, size);
                if (!draft.appendMerged(spare, low, middle, high, desk, hook)) {
                    return false;
                }
            }
        }
        return true;
    }

    /** The draft becomes the kept cards, and all from the one on at which the hook threw: false then. */
    private boolean judgeOntoDraft(Row row, int hook) {
        draft.clear();
        for (int place = 0; place < row.size; place++) {
            int answer = desk.askKeeping(hook, row.cardAt(place));
            if (answer == THREW) {
                draft.appendPart(row, place, row.size);
                return false;
            }
            desk.latest.handled++;
            if (answer == 1) {
                draft.append(row.cardAt(place));
            }
        }
        return true;
    }

    private boolean placeAllOnDraft(Tray tray, Row row) {
        for (int place = 0; place < row.size; place++) {
            if (!placeOnDraft(tray, row.cardAt(place))) {
                return false;
            }
        }
        return true;
    }

    /** In the row itself, since what is done ahead of a throw stays. */
    private boolean changeCards(Row row, int hook) {
        for (int place = 0; place < row.size; place++) {
            int made = desk.askAdding(hook, row.cardAt(place));
            if (made == THREW) {
                return false;
            }
            row.replace(place, made);
            desk.latest.handled++;
        }
        return true;
    }

    private boolean mergeIntoDraft(Row coming, int hook) {
        int middle = draft.size;
        spare.copy(draft);
        spare.appendPart(coming, 0, coming.size);
        draft.clear();
        return draft.appendMerged(spare, 0, middle, spare.size, desk, hook);
    }

    private boolean isWhole(Tray tray) {
        if (tray.kind == ROW) {
            return true;
        }
        for (int place = 1; place < tray.row.size; place++) {
            int ahead = tray.kind == SORTED ? place - 1 : (place - 1) / 2;
            if (desk.compareTruly(tray.hook, tray.row.cardAt(place), tray.row.cardAt(ahead)) < 0) {
                return false;
            }
        }
        return true;
    }

    /** The cards that there are. */
    private static final class Deck {
        private final int[] weights = new int[MOST_CARDS];
        private final int[] marks = new int[MOST_CARDS];
        private int size = 0;

        boolean has(int card) {
            return card >= 0 && card < size;
        }

        int add(int weight, int mark) {
            if (size >= MOST_CARDS) {
                return FULL;
            }
            weights[size] = weight;
            marks[size] = mark;
            size++;
            return size - 1;
        }

        int weightOf(int card) {
            return card >= 0 && card < size ? weights[card] : 0;
        }

        int markOf(int card) {
            return card >= 0 && card < size ? marks[card] : 0;
        }
    }

    /** What is known of one hook. */
    private static final class Hook {
        private int kind = LIGHTER;
        private int a = 0;
        private int calls = 0;
        private int latestCalls = 0;
        private int misuses = 0;

        void become(int newKind, int number) {
            kind = newKind;
            a = number;
        }
    }

    /** The plans that stand, in no order. */
    private static final class Plans {
        private final int[] hooks = new int[MOST_PLANS];
        private final int[] calls = new int[MOST_PLANS];
        private final int[] effects = new int[MOST_PLANS];
        private int size = 0;

        /** How many stand then, or FULL; one for the same call gives way, even when no more could stand. */
        int stand(int hook, int call, int effect) {
            int index = indexOf(hook, call);
            if (index == NONE) {
                if (size >= MOST_PLANS) {
                    return FULL;
                }
                index = size;
                size++;
            }
            hooks[index] = hook;
            calls[index] = call;
            effects[index] = effect;
            return size;
        }

        int effectOf(int index) {
            return index >= 0 && index < size ? effects[index] : AS_EVER;
        }

        /** The last one comes to its place, since they stand in no order. */
        void drop(int index) {
            if (index < 0 || index >= size) {
                return;
            }
            size--;
            hooks[index] = hooks[size];
            calls[index] = calls[size];
            effects[index] = effects[size];
        }

        int clear() {
            int gone = size;
            size = 0;
            return gone;
        }

        int standingFor(int hook) {
            int standing = 0;
            for (int i = 0; i < size; i++) {
                if (hooks[i] == hook) {
                    standing++;
                }
            }
            return standing;
        }

        /** Of the plan for a call, or NONE. */
        int indexOf(int hook, int call) {
            for (int i = 0; i < size; i++) {
                if (hooks[i] == hook && calls[i] == call) {
                    return i;
                }
            }
            return NONE;
        }
    }

    /** What happened in the latest act, and how many acts there were. */
    private static final class LatestAct {
        private int failure = 0;
        private int hook = NONE;
        private int call = 0;
        private int handled = 0;
        private int actsEver = 0;
        private int actsThrownAt = 0;

        void begin() {
            failure = 0;
            hook = NONE;
            call = 0;
            handled = 0;
            actsEver++;
        }

        void fail(int thrownFailure, int thrownBy, int thrownAt) {
            failure = thrownFailure;
            hook = thrownBy;
            call = thrownAt;
            actsThrownAt++;
        }
    }

    /** Where hooks are asked: each call is counted here, and meets its plan. */
    private static final class Desk {
        private final Deck deck = new Deck();
        private final Plans plans = new Plans();
        private final LatestAct latest = new LatestAct();
        private final Hook[] hooks = new Hook[MOST_HOOKS];
        private int hookCount = 0;

        Desk() {
            for (int i = 0; i < MOST_HOOKS; i++) {
                hooks[i] = new Hook();
            }
        }

        boolean hasHook(int hook) {
            return hook >= 0 && hook < hookCount;
        }

        int addHook(int kind, int a) {
            if (hookCount >= MOST_HOOKS) {
                return FULL;
            }
            hooks[hookCount].become(kind, a);
            hookCount++;
            return hookCount - 1;
        }

        int kindOf(int hook) {
            return hasHook(hook) ? hooks[hook].kind : BAD;
        }

        boolean compares(int hook) {
            int kind = kindOf(hook);
            return kind == LIGHTER || kind == HEAVIER || kind == MARKED;
        }

        int callsOf(int hook) {
            return hasHook(hook) ? hooks[hook].calls : BAD;
        }

        int latestCallsOf(int hook) {
            return hasHook(hook) ? hooks[hook].latestCalls : BAD;
        }

        int misusesOf(int hook) {
            return hasHook(hook) ? hooks[hook].misuses : BAD;
        }

        void beginAct() {
            latest.begin();
            for (int i = 0; i < hookCount; i++) {
                hooks[i].latestCalls = 0;
            }
        }

        /** Below 0 if the one card is ahead of the other by this call; THREW is to be looked for first. */
        int askComparing(int hook, int one, int other) {
            int effect = beginCall(hook);
            if (effect > 0) {
                return THREW;
            }
            int answer = compareTruly(hook, one, other);
            return effect == LYING ? -answer : answer;
        }

        int askKeeping(int hook, int card) {
            int effect = beginCall(hook);
            if (effect > 0) {
                return THREW;
            }
            int answer = deck.weightOf(card) >= numberOf(hook) ? 1 : 0;
            return effect == LYING ? 1 - answer : answer;
        }

        /** The card that is made, or THREW. */
        int askAdding(int hook, int card) {
            int effect = beginCall(hook);
            if (effect > 0) {
                return THREW;
            }
            int weight = deck.weightOf(card);
            int a = numberOf(hook);
            return deck.add(effect == LYING ? weight - a : weight + a, deck.markOf(card));
        }

        /** No call: neither counted nor planned for. */
        int compareTruly(int hook, int one, int other) {
            if (!hasHook(hook)) {
                return 0;
            }
            int byWeight = Integer.compare(deck.weightOf(one), deck.weightOf(other));
            switch (hooks[hook].kind) {
                case LIGHTER: return byWeight;
                case HEAVIER: return -byWeight;
                case MARKED:
                    int byMark = Integer.compare(deck.markOf(one), deck.markOf(other));
                    return byMark != 0 ? byMark : byWeight;
                default: return 0;
            }
        }

        private int numberOf(int hook) {
            return hasHook(hook) ? hooks[hook].a : 0;
        }

        /** The effect of the call's plan. A call back is always refused, so all that it leaves is its count. */
        private int beginCall(int hook) {
            if (!hasHook(hook)) {
                return AS_EVER;
            }
            Hook asked = hooks[hook];
            asked.calls++;
            asked.latestCalls++;
            int plan = plans.indexOf(hook, asked.calls);
            int effect = plans.effectOf(plan);
            plans.drop(plan);
            if (effect > 0) {
                latest.fail(effect, hook, asked.calls);
            } else if (effect == CALLING_BACK) {
                asked.misuses++;
            }
            return effect;
        }
    }

    /** Cards in places 0, 1, .. without a gap. */
    private static final class Row {
        private final int[] cards = new int[MOST_HELD];
        private int size = 0;

        boolean hasPlace(int place) {
            return place >= 0 && place < size;
        }

        int cardAt(int place) {
            return hasPlace(place) ? cards[place] : NONE;
        }

        boolean isLike(Row other) {
            if (size != other.size) {
                return false;
            }
            for (int i = 0; i < size; i++) {
                if (cards[i] != other.cards[i]) {
                    return false;
                }
            }
            return true;
        }

        void clear() {
            size = 0;
        }

        void copy(Row other) {
            clear();
            appendPart(other, 0, other.size);
        }

        void append(int card) {
            if (size < MOST_HELD) {
                cards[size] = card;
                size++;
            }
        }

        void appendPart(Row other, int from, int to) {
            for (int place = from; place < to; place++) {
                append(other.cardAt(place));
            }
        }

        void replace(int place, int card) {
            if (hasPlace(place)) {
                cards[place] = card;
            }
        }

        void swap(int place, int other) {
            int card = cardAt(place);
            replace(place, cardAt(other));
            replace(other, card);
        }

        void insert(int place, int card) {
            append(card);
            for (int i = size - 1; i > place; i--) {
                swap(i, i - 1);
            }
        }

        void remove(int place) {
            if (!hasPlace(place)) {
                return;
            }
            for (int i = place; i < size - 1; i++) {
                cards[i] = cards[i + 1];
            }
            size--;
        }

        /** HALVING: the place for a card, or THREW. */
        int placeFor(int card, Desk desk, int hook) {
            int low = 0;
            int high = size;
            while (low < high) {
                int middle = (low + high) / 2;
                int answer = desk.askComparing(hook, card, cardAt(middle));
                if (answer == THREW) {
                    return THREW;
                }
                if (answer < 0) {
                    high = middle;
                } else {
                    low = middle + 1;
                }
            }
            return low;
        }

        /** UP: the place that the card comes to, or THREW. */
        int rise(int from, Desk desk, int hook) {
            int place = from;
            while (place > 0) {
                int parent = (place - 1) / 2;
                int answer = desk.askComparing(hook, cardAt(place), cardAt(parent));
                if (answer == THREW) {
                    return THREW;
                }
                if (answer >= 0) {
                    return place;
                }
                swap(place, parent);
                place = parent;
            }
            return place;
        }

        /** DOWN: the place that the card comes to, or THREW. */
        int sink(int from, Desk desk, int hook) {
            int place = from;
            int child = 2 * place + 1;
            while (child < size) {
                if (child + 1 < size) {
                    int answer = desk.askComparing(hook, cardAt(child + 1), cardAt(child));
                    if (answer == THREW) {
                        return THREW;
                    }
                    if (answer < 0) {
                        child++;
                    }
                }
                int answer = desk.askComparing(hook, cardAt(child), cardAt(place));
                if (answer == THREW) {
                    return THREW;
                }
                if (answer >= 0) {
                    return place;
                }
                swap(child, place);
                place = child;
                child = 2 * place + 1;
            }
            return place;
        }

        /** MERGED: a is from low to middle, b from middle to high; false if a hook threw. */
        boolean appendMerged(Row other, int low, int middle, int high, Desk desk, int hook) {
            int a = low;
            int b = middle;
            while (a < middle && b < high) {
                int answer = desk.askComparing(hook, other.cardAt(b), other.cardAt(a));
                if (answer == THREW) {
                    return false;
                }
                if (answer < 0) {
                    append(other.cardAt(b));
                    b++;
                } else {
                    append(other.cardAt(a));
                    a++;
                }
            }
            appendPart(other, a, middle);
            appendPart(other, b, high);
            return true;
        }
    }

    /** A row with its kind, and the hook that it is kept by (NONE: a plain row). */
    private static final class Tray {
        private final Row row = new Row();
        private int kind = ROW;
        private int hook = NONE;

        void become(int newKind, int newHook) {
            kind = newKind;
            hook = newHook;
        }
    }
}
