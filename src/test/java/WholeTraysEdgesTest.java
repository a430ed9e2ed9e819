/** Promises 14 to 19: a test of its own for each sentence that names a boundary case. */
public final class WholeTraysEdgesTest extends Edges {
    private static final int[] OUTSIDE = {LEAST, -1, 5, GREATEST};

    public static void main(String[] args) throws IllegalAccessException {
        run(WholeTraysEdgesTest.class);
    }

    /** Trays 0 and 1 of a kind by LIGHTER, card 0 so often on each. */
    private static Script two(int kind, int onFirst, int onSecond) {
        return Script.HOOKS.cards(5).and("tray(" + kind + ", 0)", "tray(" + kind + ", 0)")
            .times(onFirst, "put(0, 0)").times(onSecond, "put(1, 0)");
    }

    // ---- 14, filter

    @Says("CARDS of a TRAY that KEEPING does not keep go, one by one from PLACE 0 on")
    static void promise14AnEmptyTrayAsksNone() {
        for (int kind = ROW; kind <= HEAP; kind++) {
            HookTrays x = held(kind).and("plan(3, 1, 0, 1)", "plan(0, 1, 0, 1)").made();
            due(x, "filter(0, 3)", 0);
            holds(x, 0);
            thrown(x, 0, NONE, 0, 0);
            due(x, "about(3, 1)", 0);
            due(x, "count(3)", 2);
            due(x, "count(4)", 1);
        }
    }

    @Says("it answers 1, if its WEIGHT is at least a, else 0")
    static void promise14JustAIsKeptAndOneLessIsNot() {
        for (int kind = ROW; kind <= HEAP; kind++) {
            HookTrays x = held(kind, 3, 4, 5).made();
            due(x, "filter(0, 3)", 0);
            holds(x, 0, 1, 2);
        }
    }

    @Says("it answers 1, if its WEIGHT is at least a, else 0")
    static void promise14LeastAndGreatestA() {
        Script script = Script.EMPTY.and("hook(3, " + LEAST + ")", "hook(3, " + GREATEST + ")", "hook(3, 0)")
            .cards(LEAST, LEAST + 1, -1, 0, GREATEST - 1, GREATEST).and("tray(0, 0)").puts(0, upTo(6));
        HookTrays x = script.made();
        due(x, "filter(0, 0)", 0);
        holds(x, 0, 0, 1, 2, 3, 4, 5);
        due(x, "filter(0, 2)", 0);
        holds(x, 0, 3, 4, 5);
        due(x, "filter(0, 1)", 0);
        holds(x, 0, 5);
    }

    @Says("CARDS of a TRAY that KEEPING does not keep go, one by one from PLACE 0 on")
    static void promise14NoneOf40IsKept() {
        for (int kind = ROW; kind <= HEAP; kind++) {
            HookTrays x = full(kind).and("hook(3, 6)", "plan(0, 1, 0, 1)").made();
            due(x, "filter(0, 5)", 0);
            holds(x, 0);
            due(x, "thrown(3)", 40);
            due(x, "about(5, 2)", 40);
            asked(x, 0);
            due(x, "count(3)", 1);
        }
    }

    @Says({"(all others keep their order;",
        "a HEAP is put together anew by putting them one by one into an empty one, when all were asked)"})
    static void promise14All40AreKept() {
        for (int kind = ROW; kind <= HEAP; kind++) {
            HookTrays x = held(kind, tens(40)).made();
            due(x, "filter(0, 3)", 0);
            holds(x, 0, upTo(40));
            thrown(x, 0, NONE, 0, 40);
            asked(x, kind == HEAP ? 39 : 0);
        }
    }

    @Says("a HEAP is put together anew by putting them one by one into an empty one, when all were asked")
    static void promise14OneOfAHeapIsKept() {
        HookTrays x = held(HEAP, 1, 2, 3, 4).and("plan(0, 1, 0, 1)").made();
        due(x, "filter(0, 3)", 0);
        holds(x, 0, 3);
        asked(x, 0);
        due(x, "about(3, 2)", 4);
    }

    @Says("(those ahead of the CALL that threw are judged, the others stay)")
    static void promise14ThrowsAtTheFirstCall() {
        for (int kind = ROW; kind <= SORTED; kind++) {
            HookTrays x = held(kind, 1, 2, 9).and("plan(3, 1, 0, 42)").made();
            due(x, "filter(0, 3)", 2);
            thrown(x, 42, 3, 1, 0);
            holds(x, 0, 0, 1, 2);
        }
    }

    @Says("(those ahead of the CALL that threw are judged, the others stay)")
    static void promise14ThrowsAtTheLastCall() {
        for (int kind = ROW; kind <= SORTED; kind++) {
            HookTrays x = held(kind, 1, 2, 3).and("plan(3, 3, 0, 42)").made();
            due(x, "filter(0, 3)", 2);
            thrown(x, 42, 3, 3, 2);
            holds(x, 0, 2);
            due(x, "plan(3, 1, 0, 43)", 1);
            due(x, "filter(0, 3)", 2);
            holds(x, 0, 2);
            due(x, "filter(0, 3)", 0);
            holds(x, 0);
        }
    }

    @Says("(those ahead of the CALL that threw are judged, the others stay)")
    static void promise14ThrowsAtTheLastCallOf40() {
        HookTrays x = full(ROW).and("hook(3, 6)", "plan(5, 40, 0, 42)").made();
        due(x, "filter(0, 5)", 2);
        thrown(x, 42, 5, 40, 39);
        holds(x, 0, 0);
    }

    @Says("HEAP: 0, 1.")
    static void promise14KeepingThrowsAtTheFirstOrTheLastCallOfAHeap() {
        for (int call : new int[] {1, 5}) {
            HookTrays x = held(HEAP, 1, 9, 2, 10, 11).and("plan(3, " + call + ", 0, 42)").made();
            int before = (int) Calls.ask(x, "about(0, 1)");
            due(x, "filter(0, 3)", 1);
            thrown(x, 42, 3, call, call - 1);
            holds(x, 0, upTo(5));
            due(x, "about(0, 1)", before);
        }
    }

    /** 9, 10, 11 are put anew: a call for the second, a call for the third. */
    @Says("HEAP: 0, 1.")
    static void promise14TheHeapsOwnHookThrowsAtTheFirstOrTheLastCall() {
        for (int call = 1; call <= 2; call++) {
            HookTrays x = held(HEAP, 1, 9, 2, 10, 11).and("plan(0, " + call + ", 0, 42)").made();
            int before = (int) Calls.ask(x, "about(0, 1)");
            due(x, "filter(0, 3)", 1);
            due(x, "thrown(0)", 42);
            due(x, "thrown(1)", 0);
            due(x, "thrown(2)", before + call);
            holds(x, 0, upTo(5));
        }
        HookTrays x = held(HEAP, 1, 9, 2, 10, 11).and("plan(0, 3, 0, 42)").made();
        due(x, "filter(0, 3)", 0);
        holds(x, 0, 1, 3, 4);
        due(x, "count(3)", 1);
    }

    @Says("BAD; NO: the HOOK is not KEEPING.")
    static void promise14ATrayThatIsNoneIsBad() {
        for (int tray : OUTSIDE) {
            refused(Script.BUSY, "filter(" + tray + ", 3)", BAD);
        }
    }

    @Says("BAD; NO: the HOOK is not KEEPING.")
    static void promise14AHookThatIsNoneIsBad() {
        for (int tray = 0; tray <= 2; tray++) {
            for (int hook : OUTSIDE) {
                refused(Script.BUSY, "filter(" + tray + ", " + hook + ")", BAD);
            }
        }
    }

    @Says("NO: the HOOK is not KEEPING.")
    static void promise14AHookThatIsNotKeeping() {
        for (int tray = 0; tray <= 4; tray++) {
            for (int hook : new int[] {0, 1, 2, 4}) {
                refused(Script.BUSY, "filter(" + tray + ", " + hook + ")", NO);
            }
        }
    }

    @Says("Of several the first")
    static void promise14BadComesAheadOfNo() {
        refused(Script.BUSY, "filter(5, 0)", BAD);
        refused(Script.BUSY, "filter(-1, 4)", BAD);
    }

    // ---- 15, change

    @Says("Each CARD of a ROW becomes what ADDING makes of it, from PLACE 0 on.")
    static void promise15AnEmptyRowAsksNone() {
        HookTrays x = held(ROW).and("plan(4, 1, 0, 1)").made();
        due(x, "change(0, 4)", 0);
        thrown(x, 0, NONE, 0, 0);
        due(x, "about(4, 1)", 0);
        due(x, "count(0)", 0);
        due(x, "count(3)", 1);
        due(x, "count(4)", 1);
    }

    @Says("it makes a new one, with its WEIGHT and a (wrapping), and its MARK")
    static void promise15WeightsWrap() {
        int[][] cases = {{GREATEST, 1, LEAST}, {LEAST, -1, GREATEST}, {LEAST, LEAST, 0}, {GREATEST, GREATEST, -2},
            {-1, LEAST, GREATEST}, {GREATEST, LEAST, -1}, {GREATEST, 0, GREATEST}, {GREATEST - 1, 1, GREATEST}};
        for (int[] c : cases) {
            HookTrays x = Script.EMPTY.and("hook(4, " + c[1] + ")", "card(" + c[0] + ", 99)")
                .and("tray(0, 0)", "put(0, 0)").made();
            due(x, "change(0, 0)", 0);
            holds(x, 0, 1);
            due(x, "told(1, 0)", c[2]);
            due(x, "told(1, 1)", 99);
            due(x, "told(0, 0)", c[0]);
        }
    }

    @Says("it makes a new one")
    static void promise15ACardHeldTwiceBecomesTwo() {
        HookTrays x = held(ROW, 5).and("put(0, 0)").made();
        due(x, "change(0, 4)", 0);
        holds(x, 0, 1, 2);
        due(x, "told(1, 0)", 15);
        due(x, "told(2, 0)", 15);
    }

    @Says("FULL: there would be more than 120 CARDS, if none threw.")
    static void promise15Just120Cards() {
        HookTrays x = held(ROW, upTo(40)).cards(upTo(40)).made();
        due(x, "count(0)", 80);
        due(x, "change(0, 4)", 0);
        due(x, "count(0)", 120);
        due(x, "at(0, 0)", 80);
        due(x, "at(0, 39)", 119);
        due(x, "told(119, 0)", 49);
        due(x, "change(0, 4)", FULL);
    }

    @Says("FULL: there would be more than 120 CARDS, if none threw.")
    static void promise15A121stCardWouldBeFull() {
        refused(held(ROW, 1, 2, 3).cards(upTo(115)), "change(0, 4)", FULL);
        HookTrays x = held(ROW, 1, 2, 3).cards(upTo(114)).made();
        due(x, "change(0, 4)", 0);
        due(x, "count(0)", 120);
    }

    @Says("if none threw")
    static void promise15FullWhateverWouldBeThrown() {
        Script script = held(ROW, 1, 2, 3).cards(upTo(115));
        refused(script.and("plan(4, 1, 0, 5)"), "change(0, 4)", FULL);
        refused(script.and("plan(4, 3, 0, 5)"), "change(0, 4)", FULL);
        refused(script.and("plan(4, 1, 2, 0)"), "change(0, 4)", FULL);
    }

    @Says("FULL: there would be more than 120 CARDS, if none threw.")
    static void promise15AnEmptyRowIsNeverFull() {
        HookTrays x = held(ROW).cards(upTo(120)).made();
        due(x, "change(0, 4)", 0);
        due(x, "count(0)", 120);
        due(x, "count(4)", 1);
    }

    @Says({"The OUTCOME (0, 2).", "that of the CALL that threw is none"})
    static void promise15ThrowsAtTheFirstCall() {
        HookTrays x = held(ROW, 1, 2, 3).and("plan(4, 1, 0, 42)").made();
        due(x, "change(0, 4)", 2);
        thrown(x, 42, 4, 1, 0);
        holds(x, 0, 0, 1, 2);
        due(x, "count(0)", 3);
        due(x, "told(3, 0)", NOT_TOLD);
        due(x, "card(9, 9)", 3);
    }

    @Says({"those of a part that is done stay, that of the CALL that threw is none", "The OUTCOME (0, 2)."})
    static void promise15ThrowsAtTheLastCall() {
        HookTrays x = held(ROW, 1, 2, 3).and("plan(4, 3, 0, 42)").made();
        due(x, "change(0, 4)", 2);
        thrown(x, 42, 4, 3, 2);
        holds(x, 0, 3, 4, 2);
        due(x, "count(0)", 5);
        due(x, "told(4, 0)", 12);
        due(x, "told(5, 0)", NOT_TOLD);
    }

    @Says({"FULL: there would be more than 120 CARDS, if none threw.", "that of the CALL that threw is none"})
    static void promise15ThrowsWhere120WouldBe() {
        HookTrays x = held(ROW, 1, 2, 3).cards(upTo(114)).and("plan(4, 3, 0, 42)").made();
        due(x, "change(0, 4)", 2);
        due(x, "count(0)", 119);
        due(x, "told(119, 0)", NOT_TOLD);
        due(x, "card(9, 9)", 119);
        due(x, "card(9, 9)", FULL);
    }

    @Says("BAD; NO: not a ROW, or the HOOK is not ADDING.")
    static void promise15ATrayThatIsNoneIsBad() {
        for (int tray : OUTSIDE) {
            refused(Script.BUSY, "change(" + tray + ", 4)", BAD);
        }
    }

    @Says("BAD; NO: not a ROW, or the HOOK is not ADDING.")
    static void promise15AHookThatIsNoneIsBad() {
        for (int hook : OUTSIDE) {
            refused(Script.BUSY, "change(0, " + hook + ")", BAD);
        }
    }

    @Says("NO: not a ROW, or the HOOK is not ADDING.")
    static void promise15ASortedOneOrAHeap() {
        refused(Script.BUSY, "change(1, 4)", NO);
        refused(Script.BUSY, "change(2, 4)", NO);
        refused(Script.BUSY, "change(4, 4)", NO);
    }

    @Says("NO: not a ROW, or the HOOK is not ADDING.")
    static void promise15AHookThatIsNotAdding() {
        for (int hook = 0; hook <= 3; hook++) {
            refused(Script.BUSY, "change(0, " + hook + ")", NO);
        }
    }

    @Says("Of several the first")
    static void promise15BadAndNoComeFirst() {
        Script cards118 = held(ROW, 1, 2, 3).cards(upTo(115)).and("tray(1, 0)", "put(1, 0)", "put(1, 0)", "put(1, 0)");
        refused(cards118, "change(0, 5)", BAD);
        refused(cards118, "change(-1, 4)", BAD);
        refused(cards118, "change(1, 5)", BAD);
        refused(cards118, "change(2, 0)", BAD);
        refused(cards118, "change(0, 3)", NO);
        refused(cards118, "change(1, 4)", NO);
    }

    // ---- 16, all

    @Says("BAD: also a TRAY to itself")
    static void promise16ATrayToItself() {
        for (int tray = 0; tray <= 4; tray++) {
            refused(Script.BUSY, "all(" + tray + ", " + tray + ")", BAD);
        }
        refused(full(ROW), "all(0, 0)", BAD);
    }

    @Says("BAD: also a TRAY to itself")
    static void promise16ATrayThatIsNoneIsBad() {
        for (int tray : OUTSIDE) {
            refused(Script.BUSY, "all(" + tray + ", 0)", BAD);
            refused(Script.BUSY, "all(0, " + tray + ")", BAD);
            refused(Script.BUSY, "all(" + tray + ", " + tray + ")", BAD);
        }
    }

    @Says("NO: unlike KINDS, or HOOKS")
    static void promise16UnlikeKinds() {
        refused(Script.BUSY, "all(0, 1)", NO);
        refused(Script.BUSY, "all(1, 0)", NO);
        refused(Script.BUSY, "all(0, 2)", NO);
        refused(Script.BUSY, "all(2, 0)", NO);
        refused(Script.BUSY, "all(1, 2)", NO);
        refused(Script.BUSY, "all(4, 2)", NO);
    }

    @Says("NO: unlike KINDS, or HOOKS")
    static void promise16UnlikeHooksOfOneKind() {
        for (int kind = SORTED; kind <= HEAP; kind++) {
            Script script = held(kind, 5, 6).and("hook(0, 0)", "tray(" + kind + ", 5)", "tray(" + kind + ", 1)");
            refused(script, "all(0, 1)", NO);
            refused(script, "all(1, 0)", NO);
            refused(script, "all(0, 2)", NO);
        }
    }

    @Says("by the same HOOK (ROW: whatever)")
    static void promise16RowsWhateverTheirHooks() {
        HookTrays x = Script.HOOKS.cards(5, 6).and("tray(0, 0)", "tray(0, 1)", "tray(0, -9)").puts(0, 1, 0).made();
        due(x, "all(0, 1)", 0);
        holds(x, 1, 1, 0);
        due(x, "all(1, 2)", 0);
        holds(x, 2, 1, 0);
        holds(x, 1);
    }

    @Says("FULL: it would hold more than 40.")
    static void promise16Just40() {
        for (int kind = ROW; kind <= HEAP; kind++) {
            HookTrays x = two(kind, 19, 21).made();
            due(x, "all(0, 1)", 0);
            due(x, "whole(0, 1)", 0);
            due(x, "whole(1, 1)", 40);
            due(x, "put(1, 0)", FULL);
            due(x, "put(0, 0)", 0);
        }
    }

    @Says({"FULL: it would hold more than 40.", "nothing changes then, and no HOOK is asked"})
    static void promise16A41stWouldBeFull() {
        for (int kind = ROW; kind <= HEAP; kind++) {
            refused(two(kind, 20, 21), "all(0, 1)", FULL);
            refused(two(kind, 1, 40).and("plan(0, 1, 0, 7)"), "all(0, 1)", FULL);
            refused(two(kind, 40, 1).and("plan(0, 1, 2, 0)"), "all(0, 1)", FULL);
        }
    }

    @Says("FULL: it would hold more than 40.")
    static void promise16TwoFullTrays() {
        for (int kind = ROW; kind <= HEAP; kind++) {
            HookTrays x = two(kind, 40, 40).made();
            due(x, "all(0, 1)", FULL);
            due(x, "all(1, 0)", FULL);
            due(x, "whole(0, 1)", 40);
            due(x, "whole(1, 1)", 40);
            due(x, "count(4)", 80);
        }
    }

    @Says("All of a TRAY come to another one of its KIND, by the same HOOK (ROW: whatever), which keeps none")
    static void promise16NoneComeToAFullTray() {
        for (int kind = ROW; kind <= HEAP; kind++) {
            HookTrays x = two(kind, 0, 40).and("plan(0, 1, 0, 1)").made();
            due(x, "all(0, 1)", 0);
            asked(x, 0);
            due(x, "whole(0, 1)", 0);
            due(x, "whole(1, 1)", 40);
            due(x, "count(4)", 41);
            due(x, "count(3)", 1);
        }
    }

    @Says({"MERGED are two rows, a and b: as long as both have some", "then the rest"})
    static void promise16AFullTrayComesToAnEmptyOne() {
        int[] calls = {0, 0, 39};
        for (int kind = ROW; kind <= HEAP; kind++) {
            HookTrays x = held(kind, tens(40)).and("tray(" + kind + ", 0)").made();
            due(x, "all(0, 1)", 0);
            asked(x, calls[kind]);
            holds(x, 0);
            holds(x, 1, upTo(40));
        }
    }

    @Says("as long as both have some")
    static void promise16BothEmpty() {
        for (int kind = ROW; kind <= HEAP; kind++) {
            HookTrays x = two(kind, 0, 0).and("plan(0, 1, 0, 1)").made();
            due(x, "all(0, 1)", 0);
            holds(x, 0);
            holds(x, 1);
            thrown(x, 0, NONE, 0, 0);
            due(x, "count(3)", 1);
            due(x, "count(4)", 1);
        }
    }

    /** a is card 1 of weight 5, b is card 0. */
    @Says({"it is asked of the first of b and the first of a:",
        "below 0 the one of b comes, else that of a; then the rest", "(a being those of the one to which they come)"})
    static void promise16OneMergedWithOne() {
        int[][] due = {{0, 1}, {1, 0}, {1, 0}};
        for (int weight = 4; weight <= 6; weight++) {
            HookTrays x = Script.HOOKS.cards(weight, 5).times(2, "tray(1, 0)").puts(0, 0).puts(1, 1).made();
            due(x, "all(0, 1)", 0);
            holds(x, 1, due[weight - 4]);
            asked(x, 1);
        }
    }

    @Says({"as long as both have some", "then the rest"})
    static void promise16MergingEndsWhereOneRowEnds() {
        HookTrays x = Script.HOOKS.cards(1, 2, 3, 4, 5, 6).and("tray(1, 0)", "tray(1, 0)")
            .puts(0, 0, 1).puts(1, 2, 3, 4, 5).made();
        due(x, "all(0, 1)", 0);
        holds(x, 1, 0, 1, 2, 3, 4, 5);
        asked(x, 2);
        HookTrays y = Script.HOOKS.cards(1, 2, 3, 4, 5, 6).and("tray(1, 0)", "tray(1, 0)")
            .puts(0, 4, 5).puts(1, 0, 1, 2, 3).made();
        due(y, "all(0, 1)", 0);
        holds(y, 1, 0, 1, 2, 3, 4, 5);
        asked(y, 4);
    }

    @Says("HEAP: PUT one by one.")
    static void promise16OneOfAHeapPutOnOne() {
        int[][] due = {{0, 1}, {1, 0}, {1, 0}};
        for (int weight = 4; weight <= 6; weight++) {
            HookTrays x = Script.HOOKS.cards(weight, 5).times(2, "tray(2, 0)").puts(0, 0).puts(1, 1).made();
            due(x, "all(0, 1)", 0);
            holds(x, 1, due[weight - 4]);
            asked(x, 1);
        }
    }

    @Says("The OUTCOME (0, 1).")
    static void promise16ThrowsAtTheFirstOrTheLastCall() {
        int calls = 20;
        for (int kind = SORTED; kind <= HEAP; kind++) {
            Script script = Script.HOOKS.cards(tens(40)).and("tray(" + kind + ", 0)", "tray(" + kind + ", 0)");
            for (int card = 0; card < 20; card++) {
                script = script.puts(0, 20 + card).puts(1, card);
            }
            for (int call : new int[] {1, calls}) {
                HookTrays x = script.and("plan(0, " + call + ", 0, 42)").made();
                int before = (int) Calls.ask(x, "about(0, 1)");
                due(x, "all(0, 1)", 1);
                thrown(x, 42, 0, before + call, 0);
                due(x, "whole(0, 1)", 20);
                due(x, "at(0, 0)", 20);
                due(x, "at(0, 19)", 39);
                holds(x, 1, upTo(20));
            }
            HookTrays x = script.and("plan(0, " + (calls + 1) + ", 0, 42)").made();
            due(x, "all(0, 1)", 0);
            asked(x, calls);
            holds(x, 0);
            holds(x, 1, upTo(40));
        }
    }

    @Says("Of several the first")
    static void promise16BadComesAheadOfNoAndNoAheadOfFull() {
        Script script = full(ROW).and("tray(1, 0)", "put(1, 0)", "tray(1, 1)");
        refused(script, "all(0, 3)", BAD);
        refused(script, "all(0, 0)", BAD);
        refused(script, "all(0, 1)", NO);
        refused(script, "all(1, 0)", NO);
        refused(script, "all(1, 2)", NO);
    }

    // ---- 17, at

    @Says("NONE. BAD.")
    static void promise17OfAnEmptyTray() {
        for (int kind = ROW; kind <= HEAP; kind++) {
            refused(held(kind), "at(0, 0)", NONE);
            refused(held(kind), "at(0, 39)", NONE);
        }
    }

    @Says("NONE. BAD.")
    static void promise17ThePlaceBehindTheLast() {
        int[][] lasts = {{0, 2, 1}, {1, 1, 0}, {2, 2, 2}, {3, 0, 3}};
        for (int[] last : lasts) {
            due(Script.BUSY.made(), "at(" + last[0] + ", " + last[1] + ")", last[2]);
            refused(Script.BUSY, "at(" + last[0] + ", " + (last[1] + 1) + ")", NONE);
            refused(Script.BUSY, "at(" + last[0] + ", 39)", NONE);
        }
    }

    @Says("NONE. BAD.")
    static void promise17APlaceBelow0IsBad() {
        for (int tray = 0; tray <= 4; tray++) {
            refused(Script.BUSY, "at(" + tray + ", -1)", BAD);
            refused(Script.BUSY, "at(" + tray + ", " + LEAST + ")", BAD);
        }
    }

    @Says("NONE. BAD.")
    static void promise17ATrayThatIsNoneIsBad() {
        for (int tray : OUTSIDE) {
            refused(Script.BUSY, "at(" + tray + ", 0)", BAD);
            refused(Script.BUSY, "at(" + tray + ", 39)", BAD);
            refused(Script.BUSY, "at(" + tray + ", -1)", BAD);
        }
    }

    @Says({"hold up to 40 CARDS", "in PLACES 0, 1, .."})
    static void promise17ThePlacesOfAFullTray() {
        for (int kind = ROW; kind <= HEAP; kind++) {
            HookTrays x = held(kind, tens(40)).made();
            due(x, "at(0, 0)", 0);
            due(x, "at(0, 39)", 39);
        }
    }

    @Says("NONE. BAD.")
    static void promise17NoCardIsBehindPlace39() {
        for (int place : new int[] {40, 41, GREATEST}) {
            noCardAt(held(ROW, tens(40)), place);
            noCardAt(Script.BUSY, place);
        }
    }

    @Says("NONE. BAD.")
    static void promise17WhatWentIsThereNoMore() {
        HookTrays x = held(ROW, 7, 8).and("take(0, 1)").made();
        due(x, "at(0, 1)", NONE);
        due(x, "first(0)", 0);
        due(x, "at(0, 0)", NONE);
    }

    // ---- 18, whole

    @Says("ROW: 1. BAD.")
    static void promise18ATrayThatIsNoneIsBad() {
        for (int tray : OUTSIDE) {
            for (int what = 0; what <= 3; what++) {
                refused(Script.BUSY, "whole(" + tray + ", " + what + ")", BAD);
            }
        }
    }

    @Says("ROW: 1. BAD.")
    static void promise18WhatBelow0IsBad() {
        for (int tray = 0; tray <= 2; tray++) {
            refused(Script.BUSY, "whole(" + tray + ", -1)", BAD);
            refused(Script.BUSY, "whole(" + tray + ", " + LEAST + ")", BAD);
        }
    }

    @Says("ROW: 1. BAD.")
    static void promise18WhatAbove3IsBad() {
        for (int tray = 0; tray <= 2; tray++) {
            refused(Script.BUSY, "whole(" + tray + ", 4)", BAD);
            refused(Script.BUSY, "whole(" + tray + ", " + GREATEST + ")", BAD);
        }
    }

    @Says("0 KIND, 1 how many CARDS, 2 its HOOK (NONE: ROW)")
    static void promise18OfAnEmptyTray() {
        for (int kind = ROW; kind <= HEAP; kind++) {
            HookTrays x = held(kind).made();
            due(x, "whole(0, 0)", kind);
            due(x, "whole(0, 1)", 0);
            due(x, "whole(0, 2)", kind == ROW ? NONE : 0);
            due(x, "whole(0, 3)", 1);
        }
    }

    @Says("1 how many CARDS")
    static void promise18OfAFullTray() {
        for (int kind = ROW; kind <= HEAP; kind++) {
            HookTrays x = full(kind).made();
            due(x, "whole(0, 1)", 40);
            due(x, "whole(0, 3)", 1);
        }
    }

    @Says("SORTED: no CARD is to be ahead of the one ahead of it; HEAP: none ahead of that in (i - 1) / 2.")
    static void promise18OfOneCard() {
        for (int kind = SORTED; kind <= HEAP; kind++) {
            due(held(kind, 5).made(), "whole(0, 3)", 1);
        }
    }

    @Says("SORTED: no CARD is to be ahead of the one ahead of it")
    static void promise18LikeOnesAreWhole() {
        for (int kind = SORTED; kind <= HEAP; kind++) {
            for (int hook = 0; hook <= 2; hook++) {
                HookTrays x = Script.HOOKS.cards(5, 5).and("tray(" + kind + ", " + hook + ")").puts(0, 0, 1, 0).made();
                due(x, "whole(0, 3)", 1);
            }
        }
    }

    @Says("SORTED: no CARD is to be ahead of the one ahead of it")
    static void promise18TheFirstTwoOfASortedOne() {
        HookTrays x = held(SORTED, 10, 30).cards(0).and("plan(0, 2, 1, 0)", "put(0, 2)").made();
        holds(x, 0, 0, 2, 1);
        due(x, "whole(0, 3)", 0);
        due(x, "take(0, 0)", 0);
        due(x, "whole(0, 3)", 1);
    }

    @Says("SORTED: no CARD is to be ahead of the one ahead of it")
    static void promise18TheLastTwoOfAFullSortedOne() {
        HookTrays x = held(SORTED, tens(39)).cards(385).and("plan(0, 5, 1, 0)", "put(0, 39)").made();
        due(x, "at(0, 38)", 38);
        due(x, "at(0, 39)", 39);
        due(x, "whole(0, 3)", 0);
        due(x, "take(0, 39)", 0);
        due(x, "whole(0, 3)", 1);
    }

    @Says("HEAP: none ahead of that in (i - 1) / 2.")
    static void promise18Places1And2OfAHeap() {
        HookTrays x = held(HEAP, 10).cards(5).and("plan(0, 1, 1, 0)", "put(0, 1)").made();
        holds(x, 0, 0, 1);
        due(x, "whole(0, 3)", 0);
        HookTrays y = held(HEAP, 10, 20).cards(5).and("plan(0, 1, 1, 0)", "put(0, 2)").made();
        holds(y, 0, 0, 1, 2);
        due(y, "whole(0, 3)", 0);
    }

    @Says("HEAP: none ahead of that in (i - 1) / 2.")
    static void promise18TheLastPlaceOfAFullHeap() {
        HookTrays x = held(HEAP, tens(39)).cards(199).and("plan(0, 1, 1, 0)", "put(0, 39)").made();
        due(x, "at(0, 39)", 39);
        due(x, "at(0, 19)", 19);
        due(x, "whole(0, 3)", 0);
        HookTrays y = held(HEAP, tens(39)).cards(200).and("put(0, 39)").made();
        due(y, "at(0, 39)", 39);
        due(y, "whole(0, 3)", 1);
    }

    @Says("whether it is WHOLE by what its HOOK truly tells (1, 0)")
    static void promise18ALeastAndAGreatestWeight() {
        for (int kind = SORTED; kind <= HEAP; kind++) {
            HookTrays x = held(kind, LEAST, GREATEST).made();
            due(x, "whole(0, 3)", 1);
            HookTrays y = held(kind, GREATEST).cards(LEAST).and("plan(0, 1, 1, 0)", "put(0, 1)").made();
            holds(y, 0, 0, 1);
            due(y, "whole(0, 3)", 0);
        }
    }

    @Says("(No CALL.)")
    static void promise18IsNoCallAndMeetsNoPlan() {
        for (int kind = SORTED; kind <= HEAP; kind++) {
            for (int what = 0; what <= 2; what++) {
                Script script = held(kind, 10, 20, 30)
                    .and("plan(0, 1, " + what + ", 5)", "plan(0, 2, " + what + ", 5)");
                refused(script, "whole(0, 3)", 1);
            }
        }
    }

    @Says("ROW: 1.")
    static void promise18ARowIsWholeInAnyOrder() {
        HookTrays x = held(ROW, 3, 1, 2).made();
        due(x, "whole(0, 3)", 1);
        due(x, "sort(0, 1)", 0);
        due(x, "whole(0, 3)", 1);
    }

    // ---- 19, same

    @Says("1: two TRAYS hold the same CARDS in the same order, 0.")
    static void promise19BothEmpty() {
        HookTrays x = Script.HOOKS.and("tray(0, 0)", "tray(1, 0)", "tray(2, 0)").made();
        for (int tray = 0; tray <= 2; tray++) {
            for (int other = 0; other <= 2; other++) {
                due(x, "same(" + tray + ", " + other + ")", 1);
            }
        }
    }

    @Says("1: two TRAYS hold the same CARDS in the same order, 0.")
    static void promise19OneEmpty() {
        HookTrays x = two(ROW, 1, 0).made();
        due(x, "same(0, 1)", 0);
        due(x, "same(1, 0)", 0);
    }

    @Says("1: two TRAYS hold the same CARDS in the same order, 0.")
    static void promise19ATrayAndItself() {
        for (int tray = 0; tray <= 4; tray++) {
            refused(Script.BUSY, "same(" + tray + ", " + tray + ")", 1);
        }
    }

    @Says("1: two TRAYS hold the same CARDS in the same order, 0.")
    static void promise19OneOfThemHasOneMore() {
        HookTrays x = two(ROW, 39, 40).made();
        due(x, "same(0, 1)", 0);
        due(x, "same(1, 0)", 0);
        due(x, "put(0, 0)", 0);
        due(x, "same(0, 1)", 1);
    }

    @Says("1: two TRAYS hold the same CARDS in the same order, 0.")
    static void promise19TheyDifferInTheFirstOrTheLast() {
        HookTrays x = two(ROW, 40, 39).cards(5).and("put(1, 1)").made();
        due(x, "same(0, 1)", 0);
        HookTrays y = two(ROW, 3, 0).cards(5).puts(1, 1, 0, 0).made();
        due(y, "same(0, 1)", 0);
    }

    @Says("BAD.")
    static void promise19ATrayThatIsNoneIsBad() {
        for (int tray : OUTSIDE) {
            refused(Script.BUSY, "same(" + tray + ", 0)", BAD);
            refused(Script.BUSY, "same(0, " + tray + ")", BAD);
            refused(Script.BUSY, "same(" + tray + ", " + tray + ")", BAD);
        }
    }
}
