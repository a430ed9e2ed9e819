/** Promises 20 and 21: a test of its own for each sentence that names a boundary case. */
public final class HappenedEdgesTest extends Edges {
    private static final String[] REFUSED_OF_BUSY = {"put(0, 4)", "put(5, 0)", "take(0, 3)", "take(4, 0)", "first(4)",
        "first(5)", "find(0, 0)", "find(1, 4)", "sort(1, 0)", "sort(0, 3)", "filter(0, 0)", "filter(0, 5)",
        "change(1, 4)", "change(0, 3)", "all(0, 1)", "all(0, 0)"};

    public static void main(String[] args) throws IllegalAccessException {
        run(HappenedEdgesTest.class);
    }

    /** BUSY, whose latest act was thrown at, with none of its plans left; and what comes then. */
    private static HookTrays thrownAt(String... acts) {
        return Script.BUSY.and("clearPlans()").and(acts).made();
    }

    // ---- 20, thrown

    @Says("(without the one by which it was thrown; else 0). BAD.")
    static void promise20WhatBelow0IsBad() {
        refused(Script.BUSY, "thrown(-1)", BAD);
        refused(Script.BUSY, "thrown(" + LEAST + ")", BAD);
    }

    @Says("(without the one by which it was thrown; else 0). BAD.")
    static void promise20WhatAbove3IsBad() {
        refused(Script.BUSY, "thrown(4)", BAD);
        refused(Script.BUSY, "thrown(" + GREATEST + ")", BAD);
    }

    @Says("0 the number of the FAILURE that was thrown (0: none), 1 the HOOK (NONE), 2 its CALL (0)")
    static void promise20BeforeTheFirstAct() {
        thrown(Script.HOOKS.cards(5).and("tray(0, 0)", "plan(0, 1, 0, 5)").made(), 0, NONE, 0, 0);
    }

    @Says("0 the number of the FAILURE that was thrown (0: none), 1 the HOOK (NONE), 2 its CALL (0)")
    static void promise20AnActThatNoneThrewAt() {
        thrown(held(SORTED, 1, 2, 3).made(), 0, NONE, 0, 0);
    }

    @Says("1 the HOOK (NONE)")
    static void promise20TheHookMayBeTheFirstOrTheLast() {
        HookTrays x = held(ROW, 2, 1).and("hook(0, 0)", "hook(1, 0)", "hook(2, 0)")
            .and("plan(0, 1, 0, 1)", "plan(7, 1, 0, 99)").made();
        due(x, "sort(0, 0)", 1);
        thrown(x, 1, 0, 1, 0);
        due(x, "sort(0, 7)", 1);
        thrown(x, 99, 7, 1, 0);
    }

    @Says("What was thrown is kept till the next ACT")
    static void promise20ARefusedCallKeepsIt() {
        HookTrays x = Script.BUSY.made();
        for (String call : REFUSED_OF_BUSY) {
            Calls.ask(x, call);
            thrown(x, 33, 3, 2, 1);
        }
    }

    @Says("What was thrown is kept till the next ACT")
    static void promise20ACallThatIsNoActKeepsIt() {
        HookTrays x = Script.BUSY.made();
        String[] calls = {"card(1, 1)", "told(0, 0)", "hook(0, 0)", "plan(0, 9, 0, 1)", "clearPlans()", "about(0, 1)",
            "tray(0, 0)", "at(0, 0)", "whole(1, 3)", "same(0, 1)", "thrown(0)", "count(4)"};
        for (String call : calls) {
            Calls.ask(x, call);
            thrown(x, 33, 3, 2, 1);
        }
    }

    @Says({"What was thrown is kept till the next ACT",
        "ACTS are put(), take(), first(), find(), sort(), filter(), change(), all(), that are not refused."})
    static void promise20EachActIsTheNext() {
        String[] acts = {"put(0, 0)", "take(0, 0)", "first(0)", "find(1, 0)", "sort(0, 0)", "all(0, 3)"};
        for (String act : acts) {
            thrown(thrownAt(act), 0, NONE, 0, 0);
        }
        thrown(thrownAt("filter(0, 3)"), 0, NONE, 0, 3);
        thrown(thrownAt("change(0, 4)"), 0, NONE, 0, 3);
    }

    @Says("What was thrown is kept till the next ACT")
    static void promise20AnActThatAsksNoneIsTheNextToo() {
        thrown(thrownAt("find(4, 0)"), 0, NONE, 0, 0);
        thrown(thrownAt("all(4, 1)"), 0, NONE, 0, 0);
        thrown(thrownAt("filter(4, 3)"), 0, NONE, 0, 0);
    }

    @Says("3 how many CARDS filter() judged, change() made (without the one by which it was thrown; else 0)")
    static void promise20JudgedByFilterFromNoneTo40() {
        for (int many : new int[] {0, 1, 40}) {
            HookTrays x = held(ROW, tens(many)).made();
            due(x, "filter(0, 3)", 0);
            due(x, "thrown(3)", many);
        }
        for (int call : new int[] {1, 2, 40}) {
            HookTrays x = held(ROW, tens(40)).and("plan(3, " + call + ", 0, 5)").made();
            due(x, "filter(0, 3)", 2);
            due(x, "thrown(3)", call - 1);
        }
    }

    @Says("3 how many CARDS filter() judged, change() made (without the one by which it was thrown; else 0)")
    static void promise20MadeByChangeFromNoneTo40() {
        for (int many : new int[] {0, 1, 40}) {
            HookTrays x = held(ROW, tens(many)).made();
            due(x, "change(0, 4)", 0);
            due(x, "thrown(3)", many);
        }
        for (int call : new int[] {1, 2, 40}) {
            HookTrays x = held(ROW, tens(40)).and("plan(4, " + call + ", 0, 5)").made();
            due(x, "change(0, 4)", 2);
            due(x, "thrown(3)", call - 1);
        }
    }

    @Says("(without the one by which it was thrown; else 0)")
    static void promise20OtherActsJudgeAndMakeNone() {
        String[] acts = {"put(0, 0)", "take(0, 0)", "first(0)", "find(1, 0)", "sort(0, 0)", "all(0, 3)"};
        for (String act : acts) {
            HookTrays x = thrownAt("filter(0, 3)", act);
            due(x, "thrown(3)", 0);
        }
    }

    @Says("(A MISUSE is no FAILURE.)")
    static void promise20AMisuseIsNoFailure() {
        HookTrays x = held(ROW, 2, 1).and("plan(0, 1, 2, 99)", "sort(0, 0)").made();
        thrown(x, 0, NONE, 0, 0);
        due(x, "count(5)", 0);
        due(x, "about(0, 3)", 1);
    }

    @Says("1 a HOOK threw, and nothing is changed; 2 a HOOK threw, and the part ahead of that is done")
    static void promise20OnlyTheFirstThrowOfAnActComes() {
        HookTrays x = held(ROW, 2, 1, 3).and("plan(4, 1, 0, 5)", "plan(4, 2, 0, 6)", "plan(4, 3, 0, 7)").made();
        for (int call = 1; call <= 3; call++) {
            due(x, "change(0, 4)", 2);
            thrown(x, 4 + call, 4, call, 0);
            due(x, "count(3)", 3 - call);
            due(x, "count(5)", call);
        }
        due(x, "change(0, 4)", 0);
    }

    // ---- 21, count

    @Says("4 ACTS ever (that were not refused), 5 of these thrown at. BAD.")
    static void promise21WhatBelow0IsBad() {
        refused(Script.BUSY, "count(-1)", BAD);
        refused(Script.BUSY, "count(" + LEAST + ")", BAD);
    }

    @Says("4 ACTS ever (that were not refused), 5 of these thrown at. BAD.")
    static void promise21WhatAbove5IsBad() {
        refused(Script.BUSY, "count(6)", BAD);
        refused(Script.BUSY, "count(" + GREATEST + ")", BAD);
    }

    @Says("0 CARDS, 1 HOOKS, 2 TRAYS, 3 PLANS that stand")
    static void promise21AllThatThereMayBe() {
        Script script = Script.HOOKS.times(3, "hook(0, 0)").times(6, "tray(0, 0)").cards(upTo(120));
        for (int n = 1; n <= 12; n++) {
            script = script.and("plan(0, " + n + ", 0, 1)");
        }
        HookTrays x = script.made();
        int[] most = {120, 8, 6, 12, 0, 0};
        String[] more = {"card(1, 1)", "hook(0, 0)", "tray(0, 0)", "plan(0, 13, 0, 1)"};
        for (int what = 0; what <= 5; what++) {
            due(x, "count(" + what + ")", most[what]);
        }
        for (int what = 0; what <= 3; what++) {
            due(x, more[what], FULL);
            due(x, "count(" + what + ")", most[what]);
        }
    }

    @Says("4 ACTS ever (that were not refused)")
    static void promise21ARefusedCallIsNoAct() {
        HookTrays x = Script.BUSY.made();
        for (String call : REFUSED_OF_BUSY) {
            Calls.ask(x, call);
            due(x, "count(4)", 11);
            due(x, "count(5)", 1);
        }
    }

    @Says("4 ACTS ever (that were not refused)")
    static void promise21AFullTrayOrNoRoomForCardsIsNoAct() {
        for (int kind = ROW; kind <= HEAP; kind++) {
            HookTrays x = full(kind).and("tray(" + kind + ", 0)", "put(1, 0)").made();
            due(x, "put(0, 0)", FULL);
            due(x, "all(1, 0)", FULL);
            due(x, "count(4)", 41);
        }
        HookTrays x = held(ROW, upTo(40)).cards(upTo(41)).made();
        due(x, "change(0, 4)", FULL);
        due(x, "count(4)", 40);
    }

    @Says("4 ACTS ever (that were not refused)")
    static void promise21AnActThatFindsNothingToDoIsOne() {
        HookTrays x = Script.HOOKS.cards(5).and("tray(0, 0)", "tray(0, 0)", "tray(1, 0)").made();
        String[] acts = {"sort(0, 0)", "filter(0, 3)", "change(0, 4)", "all(0, 1)", "find(2, 0)"};
        for (int i = 0; i < acts.length; i++) {
            due(x, acts[i], 0);
            due(x, "count(4)", i + 1);
        }
        due(x, "count(5)", 0);
    }

    @Says({"4 ACTS ever (that were not refused)", "is refused, and the CALL goes on as without"})
    static void promise21ThePutOfACallBackIsNoAct() {
        HookTrays x = held(HEAP, 1, 2, 3).and("plan(0, 1, 2, 0)", "put(0, 0)").made();
        due(x, "about(0, 3)", 1);
        due(x, "count(4)", 4);
    }

    @Says("5 of these thrown at")
    static void promise21EachActThatIsThrownAt() {
        String[] acts = {"put(1, 0)", "take(2, 0)", "first(2)", "find(1, 0)", "sort(0, 0)", "filter(0, 3)",
            "change(0, 4)", "all(1, 4)"};
        int[] hooks = {0, 0, 0, 0, 0, 3, 4, 0};
        int[] outcomes = {1, 1, THREW, THREW, 1, 2, 2, 1};
        for (int i = 0; i < acts.length; i++) {
            HookTrays x = thrownAt("put(4, 0)", "plan(" + hooks[i] + ", 1, 0, 9)");
            due(x, acts[i], outcomes[i]);
            due(x, "thrown(0)", 9);
            due(x, "count(4)", 13);
            due(x, "count(5)", 2);
        }
    }
}
