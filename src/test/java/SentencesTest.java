/** Sentences of the document that name no boundary case: what each call does in the ordinary way. */
public final class SentencesTest extends Edges {
    private static final int THROWS = 0, LIES = 1, CALLS_BACK = 2;

    /** Trays 0 and 1 of a kind by LIGHTER hold five cards and three; each act asks a hook a few times. */
    private static final int[] ON_FIRST = {20, 70, 40, 90, 60};
    private static final int[] ON_SECOND = {30, 80, 50};

    public static void main(String[] args) throws IllegalAccessException {
        run(SentencesTest.class);
    }

    private static Script twoTrays(int kind) {
        Script script = Script.EMPTY.and("hook(0, 0)", "hook(1, 0)", "hook(2, 0)", "hook(3, 45)", "hook(4, 10)")
            .cards(ON_FIRST).cards(ON_SECOND).and("tray(" + kind + ", 0)", "tray(" + kind + ", 0)");
        return script.puts(0, 0, 1, 2, 3, 4).puts(1, 5, 6, 7);
    }

    /** The acts that are not refused on those two trays. */
    private static String[] actsOf(int kind) {
        switch (kind) {
            case ROW: return new String[] {"put(0, 7)", "take(0, 1)", "first(0)", "sort(0, 0)", "sort(0, 1)",
                "sort(0, 2)", "filter(0, 3)", "change(0, 4)", "all(1, 0)"};
            case SORTED: return new String[] {"put(0, 7)", "take(0, 1)", "first(0)", "find(0, 7)", "filter(0, 3)",
                "all(1, 0)"};
            default: return new String[] {"put(0, 5)", "take(0, 1)", "first(0)", "filter(0, 3)", "all(1, 0)"};
        }
    }

    /** Of hooks 0 to 4 in the latest act. */
    private static int[] callsOfLatestAct(HookTrays x) {
        int[] calls = new int[5];
        for (int hook = 0; hook < calls.length; hook++) {
            calls[hook] = (int) Calls.ask(x, "about(" + hook + ", 2)");
        }
        return calls;
    }

    private static int[] cardsOn(HookTrays x, int tray) {
        int[] cards = new int[(int) Calls.ask(x, "whole(" + tray + ", 1)")];
        for (int place = 0; place < cards.length; place++) {
            cards[place] = (int) Calls.ask(x, "at(" + tray + ", " + place + ")");
        }
        return cards;
    }

    // ---- what it is

    @Says({"Trays of cards that stay whole whatever their hooks do: rows, sorted rows, heaps; hooks that "
        + "compare, keep or change, and throw by plan at a call,",
        "acts that leave all as it was, or a told part done; what was thrown, with its cause, and how often "
        + "each was asked."})
    static void promise9TraysStayWholeWhicheverCallThrows() {
        for (int kind = ROW; kind <= HEAP; kind++) {
            for (String act : actsOf(kind)) {
                HookTrays plain = twoTrays(kind).made();
                Calls.ask(plain, act);
                int[] calls = callsOfLatestAct(plain);
                for (int hook = 0; hook < calls.length; hook++) {
                    for (int n = 1; n <= calls[hook]; n++) {
                        throwsAt(kind, act, hook, n);
                    }
                }
            }
        }
    }

    private static void throwsAt(int kind, String act, int hook, int n) {
        HookTrays x = twoTrays(kind).made();
        int before = (int) Calls.ask(x, "about(" + hook + ", 1)");
        due(x, "plan(" + hook + ", " + n + ", " + THROWS + ", 77)", 1);
        boolean isPartDone = kind != HEAP && (act.startsWith("filter") || act.startsWith("change"));
        boolean answersOther = act.startsWith("first") || act.startsWith("find");
        due(x, act, answersOther ? THREW : isPartDone ? 2 : 1);
        due(x, "thrown(0)", 77);
        due(x, "thrown(1)", hook);
        due(x, "thrown(2)", before + n);
        due(x, "about(" + hook + ", 2)", n);
        due(x, "whole(0, 3)", 1);
        due(x, "whole(1, 3)", 1);
        if (!isPartDone) {
            HookTrays asItWas = twoTrays(kind).made();
            holds(x, 0, cardsOn(asItWas, 0));
            holds(x, 1, cardsOn(asItWas, 1));
            due(x, "count(0)", 8);
        }
    }

    @Says({"lie at one, or call back into the tray that asks them;",
        "CALLS BACK (it puts the first CARD that it is asked of on the TRAY whose act asks it, is refused, and "
        + "the CALL goes on as without; that is a MISUSE)"})
    static void promise5WhicheverCallCallsBackTheActIsTheSame() {
        for (int kind = ROW; kind <= HEAP; kind++) {
            for (String act : actsOf(kind)) {
                HookTrays plain = twoTrays(kind).made();
                long answer = Calls.ask(plain, act);
                int[] calls = callsOfLatestAct(plain);
                for (int hook = 0; hook < calls.length; hook++) {
                    for (int n = 1; n <= calls[hook]; n++) {
                        HookTrays x = twoTrays(kind).made();
                        due(x, "plan(" + hook + ", " + n + ", " + CALLS_BACK + ", 0)", 1);
                        due(x, act, answer);
                        holds(x, 0, cardsOn(plain, 0));
                        holds(x, 1, cardsOn(plain, 1));
                        due(x, "about(" + hook + ", 2)", calls[hook]);
                        due(x, "about(" + hook + ", 3)", 1);
                        due(x, "count(3)", 0);
                        due(x, "count(4)", 9);
                    }
                }
            }
        }
    }

    @Says("An object is used for at most 512 calls after it has been made; what later calls answer is free.")
    static void promise1LaterCallsEndWithoutAnException() {
        HookTrays x = twoTrays(HEAP).made();
        for (int i = 0; i < 2000; i++) {
            x.plan(0, 1 + i % 1000, i % 3, 1);
            x.card(i, 0);
            x.put(0, i % 8);
            x.all(i % 2, 1 - i % 2);
            x.filter(1, 3);
            x.first(0);
        }
        due(new HookTrays(), "count(4)", 0);
    }

    // ---- cards, hooks

    @Says({"A CARD: its number.",
        "have a WEIGHT (an int) and a MARK (0 to 99); they never change."})
    static void promise2EachCardHasItsNumber() {
        HookTrays x = new HookTrays();
        due(x, "card(7, 3)", 0);
        due(x, "card(7, 3)", 1);
        due(x, "card(-8, 4)", 2);
        due(x, "count(0)", 3);
        int[][] cards = {{7, 3}, {7, 3}, {-8, 4}};
        for (int card = 0; card < cards.length; card++) {
            due(x, "told(" + card + ", 0)", cards[card][0]);
            due(x, "told(" + card + ", 1)", cards[card][1]);
        }
    }

    @Says("Of a CARD: 0 WEIGHT, 1 MARK.")
    static void promise3OfEachCard() {
        HookTrays x = Script.EMPTY.and("card(50, 60)", "card(60, 50)").made();
        due(x, "told(0, 0)", 50);
        due(x, "told(0, 1)", 60);
        due(x, "told(1, 0)", 60);
        due(x, "told(1, 1)", 50);
    }

    @Says({"A HOOK of a KIND with a number a (of 3, 4; others don't look at it): its number.",
        "HOOKS 0, 1, .. as they come, 8 at most, are of KINDS:"})
    static void promise4HooksOfOneKindAreTwo() {
        HookTrays x = Script.EMPTY.cards(10, 20).and("tray(0, 0)").puts(0, 0, 1).made();
        due(x, "hook(3, 15)", 0);
        due(x, "hook(3, 25)", 1);
        due(x, "hook(4, 1)", 2);
        due(x, "hook(4, 2)", 3);
        due(x, "change(0, 2)", 0);
        due(x, "change(0, 3)", 0);
        due(x, "told(4, 0)", 13);
        due(x, "told(5, 0)", 23);
        due(x, "filter(0, 0)", 0);
        holds(x, 0, 5);
        due(x, "filter(0, 1)", 0);
        holds(x, 0);
        for (int hook = 0; hook <= 3; hook++) {
            due(x, "about(" + hook + ", 1)", hook == 1 ? 1 : 2);
        }
    }

    /** A find in a tray of one is 0 if the answer is -1; if it lies, 0 if it would be 1. */
    @Says("are of KINDS: 0 LIGHTER, 1 HEAVIER, 2 MARKED (by MARKS, the lesser first, of like ones the lesser "
        + "WEIGHT): these compare: asked of two CARDS, they answer -1 (the one ahead), 1, or 0 (neither).")
    static void promise4WhatThoseThatCompareAnswer() {
        int[][] others = {{4, 5}, {5, 5}, {6, 5}, {4, 6}, {5, 6}, {6, 6}, {4, 4}, {5, 4}, {6, 4}};
        int[][] answers = {{-1, 0, 1, -1, 0, 1, -1, 0, 1}, {1, 0, -1, 1, 0, -1, 1, 0, -1},
            {-1, 0, 1, 1, 1, 1, -1, -1, -1}};
        for (int hook = 0; hook <= 2; hook++) {
            HookTrays x = Script.HOOKS.and("card(5, 5)", "tray(1, " + hook + ")", "put(0, 0)").made();
            for (int i = 0; i < others.length; i++) {
                due(x, "card(" + others[i][0] + ", " + others[i][1] + ")", i + 1);
                due(x, "find(0, " + (i + 1) + ")", answers[hook][i] == -1 ? 0 : 1);
                due(x, "plan(" + hook + ", 1, " + LIES + ", 0)", 1);
                due(x, "find(0, " + (i + 1) + ")", answers[hook][i] == 1 ? 0 : 1);
            }
        }
    }

    @Says("3 KEEPING: asked of one CARD, it answers 1, if its WEIGHT is at least a, else 0.")
    static void promise4KeepingIsAskedOfEachCardOnce() {
        HookTrays x = Script.EMPTY.and("hook(3, -3)", "card(-4, 99)", "card(-3, 0)", "card(-2, 50)", "card(3, 0)")
            .and("tray(0, 0)").puts(0, 3, 0, 1, 2, 0).made();
        due(x, "filter(0, 0)", 0);
        holds(x, 0, 3, 1, 2);
        due(x, "about(0, 2)", 5);
    }

    @Says("4 ADDING: asked of a CARD, it makes a new one, with its WEIGHT and a (wrapping), and its MARK.")
    static void promise4AddingMakesANewOne() {
        HookTrays x = Script.EMPTY.and("hook(4, -3)", "card(10, 20)", "card(1, 2)", "tray(0, 0)").puts(0, 1, 0).made();
        due(x, "change(0, 0)", 0);
        holds(x, 0, 2, 3);
        int[][] cards = {{10, 20}, {1, 2}, {-2, 2}, {7, 20}};
        for (int card = 0; card < cards.length; card++) {
            due(x, "told(" + card + ", 0)", cards[card][0]);
            due(x, "told(" + card + ", 1)", cards[card][1]);
        }
        due(x, "count(0)", 4);
    }

    @Says({"A HOOK's CALLS are numbered from 1 on. Each CALL may have a PLAN: THROWS (a FAILURE with a number 1 "
        + "to 99), LIES (a comparing one answers with the other sign, KEEPING 1 for 0 and 0 for 1; ADDING makes "
        + "it less a), CALLS BACK",
        "A PLAN for the n-th CALL of a HOOK from now on (1 to 1000): what = 0 THROWS the FAILURE f, 1 LIES, 2 "
        + "CALLS BACK (f is not looked at): how many PLANS stand."})
    static void promise5EachCallMeetsItsOwnPlan() {
        HookTrays x = Script.EMPTY.and("hook(4, 100)").cards(1, 2, 3, 4, 5).and("tray(0, 0)").puts(0, upTo(5)).made();
        due(x, "plan(0, 5, " + THROWS + ", 66)", 1);
        due(x, "plan(0, 1, " + LIES + ", 0)", 2);
        due(x, "plan(0, 2, " + CALLS_BACK + ", 0)", 3);
        due(x, "plan(0, 4, " + LIES + ", 0)", 4);
        due(x, "change(0, 0)", 2);
        thrown(x, 66, 0, 5, 4);
        holds(x, 0, 5, 6, 7, 8, 4);
        int[] weights = {-99, 102, 103, -96};
        for (int i = 0; i < weights.length; i++) {
            due(x, "told(" + (5 + i) + ", 0)", weights[i]);
        }
        due(x, "about(0, 3)", 1);
        due(x, "count(3)", 0);
    }

    @Says("Of a HOOK: 0 KIND, 1 CALLS, 2 CALLS of the latest ACT, 3 MISUSES, 4 PLANS that stand for it.")
    static void promise7OfTwoHooks() {
        HookTrays x = Script.EMPTY.and("hook(3, 0)", "hook(4, 0)").cards(1, 2, 3).and("tray(0, 0)")
            .puts(0, 0, 1, 2).and("filter(0, 0)", "take(0, 0)", "change(0, 1)", "plan(0, 1, 2, 0)", "plan(0, 9, 2, 0)",
                "plan(1, 1, 2, 0)", "plan(1, 2, 2, 0)", "plan(1, 3, 2, 0)", "filter(0, 0)").made();
        int[][] due = {{3, 5, 2, 1, 1}, {4, 2, 0, 0, 3}};
        for (int hook = 0; hook <= 1; hook++) {
            for (int what = 0; what <= 4; what++) {
                due(x, "about(" + hook + ", " + what + ")", due[hook][what]);
            }
        }
    }

    // ---- trays

    @Says({"A TRAY of a KIND, by a HOOK (ROW: not looked at): its number.",
        "TRAYS 0, 1, .. as they come, 6 at most, hold up to 40 CARDS (a CARD may be held more than once), in "
        + "PLACES 0, 1, ..; of KINDS 0 ROW; 1 SORTED by a HOOK that compares; 2 HEAP by one."})
    static void promise8EachTrayHoldsItsOwn() {
        HookTrays x = Script.HOOKS.cards(5, 3, 9).made();
        int[] kinds = {SORTED, ROW, HEAP, SORTED, ROW, HEAP};
        int[] hooks = {1, 4, 0, 0, 7, 2};
        int[][] due = {{2, 0, 1}, {0, 1, 2}, {1, 0, 2}, {1, 0, 2}, {0, 1, 2}, {1, 0, 2}};
        for (int tray = 0; tray < kinds.length; tray++) {
            due(x, "tray(" + kinds[tray] + ", " + hooks[tray] + ")", tray);
        }
        for (int tray = 0; tray < kinds.length; tray++) {
            for (int card = 0; card <= 2; card++) {
                due(x, "put(" + tray + ", " + card + ")", 0);
            }
            for (int later = tray + 1; later < kinds.length; later++) {
                holds(x, later);
            }
        }
        for (int tray = 0; tray < kinds.length; tray++) {
            holds(x, tray, due[tray]);
            due(x, "whole(" + tray + ", 0)", kinds[tray]);
            due(x, "whole(" + tray + ", 2)", kinds[tray] == ROW ? NONE : hooks[tray]);
        }
    }

    /** Calls of hooks 0, 1, 2, 3, 4 that each act is due to make. */
    @Says("A HOOK is asked as told here, and not else.")
    static void promise9EachActAsksItsHookAlone() {
        int[][][] due = {
            {{0, 0, 0, 0, 0}, {0, 0, 0, 0, 0}, {0, 0, 0, 0, 0}, {8, 0, 0, 0, 0}, {0, 8, 0, 0, 0}, {0, 0, 8, 0, 0},
                {0, 0, 0, 5, 0}, {0, 0, 0, 0, 5}, {0, 0, 0, 0, 0}},
            {{2, 0, 0, 0, 0}, {0, 0, 0, 0, 0}, {0, 0, 0, 0, 0}, {2, 0, 0, 0, 0}, {0, 0, 0, 5, 0}, {7, 0, 0, 0, 0}},
            {{2, 0, 0, 0, 0}, {2, 0, 0, 0, 0}, {2, 0, 0, 0, 0}, {2, 0, 0, 5, 0}, {6, 0, 0, 0, 0}}};
        for (int kind = ROW; kind <= HEAP; kind++) {
            String[] acts = actsOf(kind);
            for (int i = 0; i < acts.length; i++) {
                HookTrays x = twoTrays(kind).made();
                Calls.ask(x, acts[i]);
                for (int hook = 0; hook <= 4; hook++) {
                    due(x, "about(" + hook + ", 2)", due[kind][i][hook]);
                }
            }
        }
    }

    @Says("A HOOK is asked as told here, and not else.")
    static void promise9CallsThatAreNoActsAskNone() {
        String[] calls = {"card(1, 1)", "told(0, 0)", "hook(0, 0)", "plan(0, 9, 0, 1)", "clearPlans()", "about(0, 1)",
            "tray(1, 0)", "at(0, 0)", "whole(0, 3)", "same(0, 1)", "thrown(0)", "count(4)"};
        for (int kind = SORTED; kind <= HEAP; kind++) {
            HookTrays x = twoTrays(kind).made();
            int before = (int) Calls.ask(x, "about(0, 1)");
            for (String call : calls) {
                Calls.ask(x, call);
                due(x, "about(0, 1)", before);
            }
        }
    }

    @Says({"A CARD is PUT on a TRAY. ROW: behind the others. SORTED: by HALVING, in that PLACE. HEAP: behind "
        + "the others, and UP. The OUTCOME (0, 1).",
        "ACTS have an OUTCOME: 0 DONE;"})
    static void promise9OnEachKind() {
        int[][] due = {{0, 1, 2, 3, 4}, {4, 1, 3, 0, 2}, {4, 1, 2, 0, 3}};
        int[] calls = {0, 3, 2};
        for (int kind = ROW; kind <= HEAP; kind++) {
            HookTrays x = held(kind, 50, 20, 90, 20).cards(10).made();
            due(x, "put(0, 4)", 0);
            holds(x, 0, due[kind]);
            asked(x, calls[kind]);
        }
    }

    /** A lie at each call shows of which cards it was asked, and what came of that. */
    private static void lyingAt(Script script, String act, int[][] cardsDue, int[] callsDue) {
        for (int n = 0; n < cardsDue.length; n++) {
            HookTrays x = (n == 0 ? script : script.and("plan(0, " + n + ", " + LIES + ", 0)")).made();
            due(x, act, 0);
            holds(x, 0, cardsDue[n]);
            asked(x, callsDue[n]);
            due(x, "count(3)", 0);
        }
    }

    @Says("HALVING for a CARD c in a SORTED one: low 0, high how many there are; while low is below high: m, "
        + "their half, cut; it is asked of c and the CARD at m: below 0: high is m, else low is m + 1: the "
        + "PLACE is low.")
    static void promise9HalvingStepByStep() {
        int[][] due = {{0, 1, 2, 3, 7, 4, 5, 6}, {0, 1, 2, 7, 3, 4, 5, 6}, {0, 1, 2, 3, 4, 5, 7, 6},
            {0, 1, 2, 3, 4, 7, 5, 6}};
        lyingAt(held(SORTED, tens(7)).cards(45), "put(0, 7)", due, new int[] {3, 3, 3, 3});
    }

    @Says("UP in a HEAP from PLACE i: as long as i is above 0: p is (i - 1) / 2, cut; it is asked of the CARDS "
        + "at i and p: below 0: they change places, and i is p; else it ends.")
    static void promise9UpStepByStep() {
        int[][] due = {{0, 7, 2, 1, 4, 5, 6, 3}, {0, 1, 2, 3, 4, 5, 6, 7}, {0, 1, 2, 7, 4, 5, 6, 3},
            {7, 0, 2, 1, 4, 5, 6, 3}};
        lyingAt(held(HEAP, tens(7)).cards(15), "put(0, 7)", due, new int[] {3, 1, 2, 3});
    }

    @Says("DOWN from PLACE i: as long as there is a PLACE 2 i + 1: k is that; if there is 2 i + 2, it is asked "
        + "of the CARDS at 2 i + 2 and 2 i + 1: below 0: k is 2 i + 2; then it is asked of the CARDS at k and "
        + "i: below 0: they change places, and i is k; else it ends.")
    static void promise10DownStepByStep() {
        int[][] due = {{1, 3, 2, 7, 4, 5, 6}, {2, 1, 5, 3, 4, 7, 6}, {7, 1, 2, 3, 4, 5, 6}, {1, 4, 2, 3, 7, 5, 6},
            {1, 7, 2, 3, 4, 5, 6}};
        lyingAt(held(HEAP, tens(8)), "take(0, 0)", due, new int[] {4, 4, 2, 4, 4});
    }

    @Says("The CARD in a PLACE goes. HEAP: the last one comes there (if it was not that), and goes UP, and if "
        + "it did not move by that, DOWN. The OUTCOME (0, 1).")
    static void promise10UpThenDownStepByStep() {
        int[][] up = {{0, 6, 2, 1, 4, 5}, {0, 1, 2, 6, 4, 5}, {6, 0, 2, 1, 4, 5}};
        lyingAt(held(HEAP, 1, 10, 2, 11, 12, 3, 4), "take(0, 3)", up, new int[] {2, 1, 2});
        int[][] down = {{0, 3, 2, 6, 4, 5}, {6, 0, 2, 3, 4, 5}, {0, 4, 2, 3, 6, 5}, {0, 6, 2, 3, 4, 5}};
        lyingAt(held(HEAP, tens(7)), "take(0, 1)", down, new int[] {3, 1, 3, 3});
    }

    @Says({"A ROW is SORTED ANEW by a HOOK. The OUTCOME (0, 1).",
        "SORTED ANEW is a row in rounds: pieces of 1, then of 2, 4, .. (as long as that is below how many there "
        + "are): each two next to one another (the last may be shorter, or alone) are MERGED."})
    static void promise13SortedStepByStep() {
        int[][] due = {{4, 3, 2, 1, 0}, {4, 3, 2, 0, 1}, {4, 2, 3, 1, 0}, {4, 1, 3, 2, 0}, {4, 3, 1, 2, 0},
            {3, 4, 2, 1, 0}};
        lyingAt(held(ROW, 40, 30, 20, 10, 5), "sort(0, 0)", due, new int[] {5, 5, 5, 6, 6, 6});
    }

    @Says({"CARDS of a TRAY that KEEPING does not keep go, one by one from PLACE 0 on (all others keep their "
        + "order;",
        "The OUTCOME: ROW, SORTED: 0, 2 (those ahead of the CALL that threw are judged, the others stay); HEAP: "
        + "0, 1."})
    static void promise14ThrownAtAndThenNot() {
        int[][] thrownAt = {{1, 2, 3, 4}, {4, 3, 1}, {0, 4, 2, 1, 3}};
        int[][] done = {{1, 3}, {3, 1}, {3, 1}};
        for (int kind = ROW; kind <= HEAP; kind++) {
            HookTrays x = held(kind, 1, 9, 2, 8, 3).and("plan(3, 3, " + THROWS + ", 5)").made();
            due(x, "filter(0, 3)", kind == HEAP ? 1 : 2);
            holds(x, 0, thrownAt[kind]);
            due(x, "about(3, 2)", 3);
            due(x, "filter(0, 3)", 0);
            holds(x, 0, done[kind]);
        }
    }

    @Says("CARDS that ADDING made in an ACT that changed nothing are there no more; those of a part that is "
        + "done stay, that of the CALL that threw is none.")
    static void promise15CardsOfAPartThatIsDone() {
        for (int n = 1; n <= 4; n++) {
            HookTrays x = held(ROW, 1, 2, 3, 4).and("plan(4, " + n + ", " + THROWS + ", 5)").made();
            due(x, "change(0, 4)", 2);
            due(x, "count(0)", 4 + n - 1);
            for (int place = 0; place < 4; place++) {
                due(x, "at(0, " + place + ")", place < n - 1 ? 4 + place : place);
            }
            due(x, "told(" + (4 + n - 1) + ", 0)", NOT_TOLD);
        }
    }

    @Says("All of a TRAY come to another one of its KIND, by the same HOOK (ROW: whatever), which keeps none: "
        + "ROW: behind the others. SORTED: MERGED with them (a being those of the one to which they come). "
        + "HEAP: PUT one by one.")
    static void promise16OfEachKind() {
        int[][] due = {{0, 1, 2, 3, 4, 5, 6, 7}, {0, 5, 2, 7, 4, 1, 6, 3}, {0, 7, 5, 4, 1, 2, 6, 3}};
        for (int kind = ROW; kind <= HEAP; kind++) {
            HookTrays x = twoTrays(kind).made();
            due(x, "all(1, 0)", 0);
            holds(x, 0, due[kind]);
            holds(x, 1);
            due(x, "count(4)", 9);
        }
    }

    @Says("The CARD in a PLACE.")
    static void promise17OfEachKind() {
        int[][] first = {{0, 1, 2, 3, 4}, {0, 2, 4, 1, 3}, {0, 4, 2, 3, 1}};
        int[][] second = {{5, 6, 7}, {5, 7, 6}, {5, 6, 7}};
        for (int kind = ROW; kind <= HEAP; kind++) {
            HookTrays x = twoTrays(kind).made();
            holds(x, 0, first[kind]);
            holds(x, 1, second[kind]);
        }
    }

    /** Of the two cards LIGHTER has the first ahead, HEAVIER and MARKED the second. */
    @Says("Of a TRAY: 0 KIND, 1 how many CARDS, 2 its HOOK (NONE: ROW), 3 whether it is WHOLE by what its HOOK "
        + "truly tells (1, 0): SORTED: no CARD is to be ahead of the one ahead of it; HEAP: none ahead of that "
        + "in (i - 1) / 2. (No CALL.) ROW: 1.")
    static void promise18ByEachHook() {
        for (int kind = SORTED; kind <= HEAP; kind++) {
            for (int hook = 0; hook <= 2; hook++) {
                int ahead = hook == 0 ? 0 : 1;
                Script script = Script.HOOKS.and("card(1, 9)", "card(2, 3)", "tray(" + kind + ", " + hook + ")")
                    .puts(0, ahead);
                HookTrays x = script.puts(0, 1 - ahead).made();
                int[] told = {kind, 2, hook, 1};
                for (int what = 0; what <= 3; what++) {
                    due(x, "whole(0, " + what + ")", told[what]);
                }
                HookTrays y = script.and("plan(" + hook + ", 1, " + LIES + ", 0)").puts(0, 1 - ahead).made();
                holds(y, 0, 1 - ahead, ahead);
                due(y, "whole(0, 3)", 0);
                due(y, "about(" + hook + ", 1)", 1);
            }
        }
    }

    // ---- what happened

    @Says({"Of the latest ACT: 0 the number of the FAILURE that was thrown (0: none), 1 the HOOK (NONE), 2 its "
        + "CALL (0); 3 how many CARDS filter() judged, change() made",
        "ACTS have an OUTCOME: 0 DONE; 1 a HOOK threw, and nothing is changed; 2 a HOOK threw, and the part "
        + "ahead of that is done. What was thrown is kept till the next ACT: the FAILURE's number, HOOK, CALL."})
    static void promise20OfOneActAfterAnother() {
        HookTrays x = held(ROW, 9, 1, 8).and("plan(3, 2, 0, 33)", "plan(0, 1, 0, 44)").made();
        due(x, "filter(0, 3)", 2);
        thrown(x, 33, 3, 2, 1);
        due(x, "sort(0, 0)", 1);
        thrown(x, 44, 0, 1, 0);
        due(x, "change(0, 4)", 0);
        thrown(x, 0, NONE, 0, 3);
        due(x, "plan(0, 2, 0, 55)", 1);
        due(x, "sort(0, 0)", 1);
        thrown(x, 55, 0, 3, 0);
        due(x, "first(0)", 3);
        thrown(x, 0, NONE, 0, 0);
    }

    @Says("How many: 0 CARDS, 1 HOOKS, 2 TRAYS, 3 PLANS that stand, 4 ACTS ever (that were not refused), 5 of "
        + "these thrown at.")
    static void promise21OfEach() {
        HookTrays x = held(SORTED, 1, 2, 3).and("tray(0, 0)", "plan(0, 1, 0, 5)", "plan(0, 2, 0, 6)", "plan(0, 4, 0, 7)")
            .and("find(0, 0)", "put(0, 0)", "put(0, 0)").made();
        int[] due = {3, 5, 2, 0, 6, 3};
        for (int what = 0; what <= 5; what++) {
            due(x, "count(" + what + ")", due[what]);
        }
    }
}
