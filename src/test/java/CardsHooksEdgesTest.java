/** Promises 1 to 7: a test of its own for each sentence that names a boundary case. */
public final class CardsHooksEdgesTest extends Edges {
    /** A row of 40 cards, and a hook 0 that keeps every card: each filter(0, 0) is 40 calls. */
    private static final Script KEEPS_ALL = Script.EMPTY.and("hook(3, " + LEAST + ")", "card(0, 0)", "tray(0, 0)")
        .times(40, "put(0, 0)");
    /** Beside a row of two, 12 plans: of hook 0 for calls 1 to 6, of hook 3 for calls 1 to 6. */
    private static final Script PLANS_12 = twelvePlans();

    public static void main(String[] args) throws IllegalAccessException {
        run(CardsHooksEdgesTest.class);
    }

    private static Script twelvePlans() {
        Script script = held(ROW, 7, 6);
        for (int n = 1; n <= 6; n++) {
            script = script.and("plan(0, " + n + ", 0, " + n + ")", "plan(3, " + n + ", 0, " + (10 + n) + ")");
        }
        return script;
    }

    // ---- 1, a new object

    @Says("No CARDS, HOOKS, TRAYS.")
    static void promise1NoCards() {
        HookTrays x = new HookTrays();
        due(x, "count(0)", 0);
        due(x, "told(0, 0)", NOT_TOLD);
        due(x, "told(0, 1)", NOT_TOLD);
        due(x, "tray(0, 0)", 0);
        due(x, "put(0, 0)", BAD);
    }

    @Says("No CARDS, HOOKS, TRAYS.")
    static void promise1NoHooks() {
        HookTrays x = new HookTrays();
        due(x, "count(1)", 0);
        for (int what = 0; what <= 4; what++) {
            due(x, "about(0, " + what + ")", BAD);
        }
        due(x, "tray(1, 0)", BAD);
        due(x, "tray(2, 0)", BAD);
    }

    @Says("No CARDS, HOOKS, TRAYS.")
    static void promise1NoTrays() {
        HookTrays x = Script.HOOKS.cards(5).made();
        due(x, "count(2)", 0);
        String[] calls = {"put(0, 0)", "take(0, 0)", "first(0)", "find(0, 0)", "sort(0, 0)", "filter(0, 3)",
            "change(0, 4)", "all(0, 0)", "all(0, 1)", "at(0, 0)", "whole(0, 0)", "whole(0, 3)", "same(0, 0)"};
        for (String call : calls) {
            due(x, call, BAD);
        }
        due(x, "count(4)", 0);
    }

    @Says("No CARDS, HOOKS, TRAYS.")
    static void promise1NoPlans() {
        HookTrays x = new HookTrays();
        due(x, "count(3)", 0);
        due(x, "plan(0, 1, 0, 1)", BAD);
        due(x, "clearPlans()", 0);
    }

    @Says("No CARDS, HOOKS, TRAYS.")
    static void promise1NoActYet() {
        HookTrays x = new HookTrays();
        thrown(x, 0, NONE, 0, 0);
        due(x, "count(4)", 0);
        due(x, "count(5)", 0);
    }

    @Says("No CARDS, HOOKS, TRAYS.")
    static void promise1WhateverNumbersAreGiven() {
        int[] numbers = {LEAST, -1, 0, 1, GREATEST};
        String[] names = {"about", "put", "take", "find", "sort", "filter", "change", "all", "at", "whole", "same"};
        for (String name : names) {
            HookTrays x = new HookTrays();
            for (int p : numbers) {
                for (int q : numbers) {
                    due(x, name + "(" + p + ", " + q + ")", BAD);
                    due(x, "first(" + p + ")", BAD);
                    due(x, "told(" + p + ", " + q + ")", NOT_TOLD);
                    due(x, "plan(" + p + ", " + q + ", " + q + ", " + q + ")", BAD);
                }
            }
            due(x, "count(4)", 0);
        }
    }

    @Says("No CARDS, HOOKS, TRAYS.")
    static void promise1OneObjectHasNothingOfAnother() {
        HookTrays busy = Script.BUSY.made();
        HookTrays x = new HookTrays();
        for (int what = 0; what <= 5; what++) {
            due(x, "count(" + what + ")", 0);
        }
        due(x, "card(1, 1)", 0);
        due(busy, "told(0, 0)", 5);
        due(busy, "count(0)", 4);
    }

    @Says("An object is used for at most 512 calls after it has been made")
    static void promise1The512thCall() {
        HookTrays x = Script.EMPTY.and("hook(0, 0)", "card(1, 0)", "tray(2, 0)").made();
        for (int i = 0; i < 254; i++) {
            due(x, "put(0, 0)", 0);
            due(x, "first(0)", 0);
        }
        due(x, "count(4)", 508);
    }

    @Says("An object is used for at most 512 calls after it has been made")
    static void promise1The512thCallIsAnAct() {
        HookTrays x = full(ROW).made();
        for (int calls = 47; calls < 511; calls++) {
            due(x, "sort(0, 1)", 0);
        }
        due(x, "sort(0, 2)", 0);
    }

    // ---- 2, card

    @Says("have a WEIGHT (an int)")
    static void promise2LeastAndGreatestWeight() {
        HookTrays x = new HookTrays();
        due(x, "card(" + LEAST + ", 0)", 0);
        due(x, "card(" + GREATEST + ", 0)", 1);
        due(x, "card(-1, 0)", 2);
        due(x, "card(0, 0)", 3);
        due(x, "count(0)", 4);
    }

    @Says("a MARK (0 to 99)")
    static void promise2Mark0AndMark99() {
        HookTrays x = new HookTrays();
        due(x, "card(7, 0)", 0);
        due(x, "card(7, 99)", 1);
        due(x, "told(0, 1)", 0);
        due(x, "told(1, 1)", 99);
    }

    @Says("BAD: the MARK.")
    static void promise2AMarkBelow0IsBad() {
        refused(Script.BUSY, "card(5, -1)", BAD);
        refused(Script.BUSY, "card(5, " + LEAST + ")", BAD);
    }

    @Says("BAD: the MARK.")
    static void promise2AMarkAbove99IsBad() {
        refused(Script.BUSY, "card(5, 100)", BAD);
        refused(Script.BUSY, "card(5, " + GREATEST + ")", BAD);
    }

    @Says({"CARDS 0, 1, .. as they come, 120 at most", "FULL."})
    static void promise2The120thIsTheLast() {
        HookTrays x = Script.EMPTY.cards(upTo(119)).made();
        due(x, "card(1000, 99)", 119);
        due(x, "card(1001, 98)", FULL);
        due(x, "count(0)", 120);
        for (int card = 0; card < 119; card++) {
            due(x, "told(" + card + ", 0)", card);
            due(x, "told(" + card + ", 1)", 0);
        }
        due(x, "told(119, 0)", 1000);
        due(x, "told(119, 1)", 99);
        due(x, "told(120, 0)", NOT_TOLD);
    }

    @Says("FULL.")
    static void promise2A121stChangesNothing() {
        refused(held(ROW, 3, 2, 1).cards(upTo(117)), "card(5, 5)", FULL);
    }

    @Says({"FULL.", "Of several the first"})
    static void promise2BadComesAheadOfFull() {
        refused(held(ROW, 3, 2, 1).cards(upTo(117)), "card(5, 100)", BAD);
        refused(held(ROW, 3, 2, 1).cards(upTo(117)), "card(5, -1)", BAD);
    }

    @Says("CARDS 0, 1, .. as they come")
    static void promise2ARefusedCardHasNoNumber() {
        HookTrays x = new HookTrays();
        due(x, "card(1, 1)", 0);
        due(x, "card(2, 100)", BAD);
        due(x, "card(3, 3)", 1);
        due(x, "told(1, 0)", 3);
    }

    @Says("120 at most")
    static void promise2CardsThatAddingMadeAreAmongThe120() {
        HookTrays x = held(ROW, 1, 2).cards(upTo(116)).made();
        due(x, "change(0, 4)", 0);
        due(x, "count(0)", 120);
        due(x, "card(1, 1)", FULL);
    }

    // ---- 3, told

    @Says("0 WEIGHT, 1 MARK")
    static void promise3LeastAndGreatestWeight() {
        HookTrays x = Script.EMPTY.cards(LEAST, GREATEST, 0, -1).made();
        due(x, "told(0, 0)", -2147483648L);
        due(x, "told(1, 0)", 2147483647L);
        due(x, "told(2, 0)", 0);
        due(x, "told(3, 0)", -1);
    }

    @Says("0 WEIGHT, 1 MARK")
    static void promise3LeastAndGreatestMark() {
        HookTrays x = Script.EMPTY.and("card(-5, 0)", "card(-5, 99)").made();
        due(x, "told(0, 1)", 0);
        due(x, "told(1, 1)", 99);
    }

    @Says("BAD answers -10000000000.")
    static void promise3ACardBelow0() {
        refused(Script.BUSY, "told(-1, 0)", NOT_TOLD);
        refused(Script.BUSY, "told(-1, 1)", NOT_TOLD);
        refused(Script.BUSY, "told(" + LEAST + ", 0)", NOT_TOLD);
    }

    @Says("BAD answers -10000000000.")
    static void promise3TheCardBehindTheLast() {
        refused(Script.BUSY, "told(4, 0)", NOT_TOLD);
        refused(Script.BUSY, "told(4, 1)", NOT_TOLD);
        refused(Script.BUSY, "told(" + GREATEST + ", 0)", NOT_TOLD);
        HookTrays x = Script.BUSY.made();
        due(x, "told(3, 0)", 3);
        due(x, "told(3, 1)", 7);
    }

    @Says("BAD answers -10000000000.")
    static void promise3TheCardBehind120() {
        HookTrays x = Script.EMPTY.cards(upTo(120)).made();
        due(x, "told(119, 0)", 119);
        due(x, "told(120, 0)", NOT_TOLD);
        due(x, "told(120, 1)", NOT_TOLD);
    }

    @Says("BAD answers -10000000000.")
    static void promise3WhatBelow0() {
        refused(Script.BUSY, "told(0, -1)", NOT_TOLD);
        refused(Script.BUSY, "told(0, " + LEAST + ")", NOT_TOLD);
    }

    @Says("BAD answers -10000000000.")
    static void promise3WhatAbove1() {
        refused(Script.BUSY, "told(0, 2)", NOT_TOLD);
        refused(Script.BUSY, "told(0, " + GREATEST + ")", NOT_TOLD);
    }

    @Says("they never change")
    static void promise3CardsNeverChange() {
        HookTrays x = Script.BUSY.made();
        String[] acts = {"put(1, 3)", "take(0, 0)", "first(2)", "sort(0, 1)", "filter(2, 3)", "change(3, 4)",
            "all(0, 3)"};
        for (String act : acts) {
            Calls.ask(x, act);
        }
        int[][] cards = {{5, 1}, {3, 2}, {9, 0}, {3, 7}};
        for (int card = 0; card < cards.length; card++) {
            due(x, "told(" + card + ", 0)", cards[card][0]);
            due(x, "told(" + card + ", 1)", cards[card][1]);
        }
    }

    // ---- 4, hook

    @Says("are of KINDS: 0 LIGHTER, 1 HEAVIER, 2 MARKED")
    static void promise4Kinds0To4() {
        HookTrays x = new HookTrays();
        for (int kind = 0; kind <= 4; kind++) {
            due(x, "hook(" + kind + ", 0)", kind);
            due(x, "about(" + kind + ", 0)", kind);
        }
    }

    @Says("BAD; FULL.")
    static void promise4AKindBelow0IsBad() {
        refused(Script.BUSY, "hook(-1, 0)", BAD);
        refused(Script.BUSY, "hook(" + LEAST + ", 0)", BAD);
    }

    @Says("BAD; FULL.")
    static void promise4AKindAbove4IsBad() {
        refused(Script.BUSY, "hook(5, 0)", BAD);
        refused(Script.BUSY, "hook(" + GREATEST + ", 0)", BAD);
    }

    @Says("with a number a (of 3, 4; others don't look at it)")
    static void promise4LeastAndGreatestA() {
        HookTrays x = new HookTrays();
        int made = 0;
        for (int kind = 1; kind <= 4; kind++) {
            due(x, "hook(" + kind + ", " + LEAST + ")", made++);
            due(x, "hook(" + kind + ", " + GREATEST + ")", made++);
        }
    }

    @Says("with a number a (of 3, 4; others don't look at it)")
    static void promise4ThoseThatCompareDontLookAtA() {
        for (int a : new int[] {LEAST, -1, 0, 1, GREATEST}) {
            HookTrays x = Script.EMPTY.and("hook(0, " + a + ")", "hook(1, " + a + ")", "hook(2, " + a + ")",
                "card(2, 5)", "card(1, 6)", "card(3, 4)", "tray(0, 0)").puts(0, 0, 1, 2).made();
            due(x, "sort(0, 0)", 0);
            holds(x, 0, 1, 0, 2);
            due(x, "sort(0, 1)", 0);
            holds(x, 0, 2, 0, 1);
            due(x, "sort(0, 0)", 0);
            due(x, "sort(0, 2)", 0);
            holds(x, 0, 2, 0, 1);
        }
    }

    @Says({"HOOKS 0, 1, .. as they come, 8 at most", "BAD; FULL."})
    static void promise4The8thIsTheLast() {
        HookTrays x = Script.HOOKS.and("hook(0, 0)", "hook(1, 0)").made();
        due(x, "hook(3, 9)", 7);
        due(x, "hook(3, 9)", FULL);
        due(x, "count(1)", 8);
        due(x, "about(7, 0)", 3);
        due(x, "about(8, 0)", BAD);
    }

    @Says("BAD; FULL.")
    static void promise4A9thChangesNothing() {
        Script eight = Script.BUSY.and("hook(0, 0)", "hook(1, 0)", "hook(2, 0)");
        for (int kind = 0; kind <= 4; kind++) {
            refused(eight, "hook(" + kind + ", 1)", FULL);
        }
    }

    @Says("Of several the first")
    static void promise4BadComesAheadOfFull() {
        Script eight = Script.BUSY.and("hook(0, 0)", "hook(1, 0)", "hook(2, 0)");
        refused(eight, "hook(-1, 1)", BAD);
        refused(eight, "hook(5, 1)", BAD);
    }

    @Says("HOOKS 0, 1, .. as they come")
    static void promise4ARefusedHookHasNoNumber() {
        HookTrays x = new HookTrays();
        due(x, "hook(2, 0)", 0);
        due(x, "hook(5, 0)", BAD);
        due(x, "hook(1, 0)", 1);
        due(x, "about(1, 0)", 1);
    }

    // ---- 5, plan

    @Says({"for the n-th CALL of a HOOK from now on (1 to 1000)", "A HOOK's CALLS are numbered from 1 on"})
    static void promise5TheFirstCallIsNumber1() {
        HookTrays x = KEEPS_ALL.made();
        due(x, "plan(0, 1, 0, 5)", 1);
        due(x, "filter(0, 0)", 2);
        thrown(x, 5, 0, 1, 0);
    }

    @Says("for the n-th CALL of a HOOK from now on (1 to 1000)")
    static void promise5The1000thCall() {
        HookTrays x = KEEPS_ALL.made();
        due(x, "plan(0, 1000, 0, 5)", 1);
        for (int i = 1; i <= 24; i++) {
            due(x, "filter(0, 0)", 0);
            due(x, "about(0, 1)", 40 * i);
        }
        due(x, "count(3)", 1);
        due(x, "filter(0, 0)", 2);
        thrown(x, 5, 0, 1000, 39);
        due(x, "count(3)", 0);
    }

    @Says("for the n-th CALL of a HOOK from now on (1 to 1000)")
    static void promise5NIsCountedFromNowOn() {
        HookTrays x = KEEPS_ALL.and("filter(0, 0)", "filter(0, 0)").made();
        due(x, "plan(0, 1, 0, 5)", 1);
        due(x, "filter(0, 0)", 2);
        thrown(x, 5, 0, 81, 0);
        due(x, "plan(0, 1000, 0, 6)", 1);
        for (int i = 0; i < 24; i++) {
            due(x, "filter(0, 0)", 0);
        }
        due(x, "filter(0, 0)", 2);
        thrown(x, 6, 0, 1081, 39);
    }

    @Says("(1 to 1000)")
    static void promise5AnNBelow1IsBad() {
        for (int n : new int[] {0, -1, LEAST}) {
            for (int what = 0; what <= 2; what++) {
                refused(Script.BUSY, "plan(0, " + n + ", " + what + ", 1)", BAD);
            }
        }
    }

    @Says("(1 to 1000)")
    static void promise5AnNAbove1000IsBad() {
        for (int n : new int[] {1001, GREATEST}) {
            for (int what = 0; what <= 2; what++) {
                refused(Script.BUSY, "plan(0, " + n + ", " + what + ", 1)", BAD);
            }
        }
    }

    @Says("BAD: also f.")
    static void promise5AHookBelow0IsBad() {
        refused(Script.BUSY, "plan(-1, 1, 0, 1)", BAD);
        refused(Script.BUSY, "plan(" + LEAST + ", 1, 0, 1)", BAD);
    }

    @Says("BAD: also f.")
    static void promise5TheHookBehindTheLastIsBad() {
        refused(Script.BUSY, "plan(5, 1, 0, 1)", BAD);
        refused(Script.BUSY, "plan(" + GREATEST + ", 1, 0, 1)", BAD);
        HookTrays x = Script.BUSY.made();
        due(x, "plan(4, 1, 0, 1)", 7);
    }

    @Says("what = 0 THROWS the FAILURE f, 1 LIES, 2 CALLS BACK")
    static void promise5WhatBelow0IsBad() {
        refused(Script.BUSY, "plan(0, 1, -1, 1)", BAD);
        refused(Script.BUSY, "plan(0, 1, " + LEAST + ", 1)", BAD);
    }

    @Says("what = 0 THROWS the FAILURE f, 1 LIES, 2 CALLS BACK")
    static void promise5WhatAbove2IsBad() {
        refused(Script.BUSY, "plan(0, 1, 3, 1)", BAD);
        refused(Script.BUSY, "plan(0, 1, " + GREATEST + ", 1)", BAD);
    }

    @Says("THROWS (a FAILURE with a number 1 to 99)")
    static void promise5Failure1AndFailure99OfEachHook() {
        String[] acts = {"sort(0, 0)", "sort(0, 1)", "sort(0, 2)", "filter(0, 3)", "change(0, 4)"};
        for (int hook = 0; hook <= 4; hook++) {
            HookTrays x = held(ROW, 7, 6).made();
            due(x, "plan(" + hook + ", 1, 0, 1)", 1);
            due(x, acts[hook], hook <= 2 ? 1 : 2);
            thrown(x, 1, hook, 1, 0);
            due(x, "plan(" + hook + ", 1, 0, 99)", 1);
            due(x, acts[hook], hook <= 2 ? 1 : 2);
            thrown(x, 99, hook, 2, 0);
            holds(x, 0, 0, 1);
            due(x, "count(0)", 2);
        }
    }

    @Says({"a number 1 to 99", "BAD: also f."})
    static void promise5AFailureBelow1IsBad() {
        refused(Script.BUSY, "plan(0, 1, 0, 0)", BAD);
        refused(Script.BUSY, "plan(0, 1, 0, -1)", BAD);
        refused(Script.BUSY, "plan(0, 1, 0, " + LEAST + ")", BAD);
    }

    @Says({"a number 1 to 99", "BAD: also f."})
    static void promise5AFailureAbove99IsBad() {
        refused(Script.BUSY, "plan(0, 1, 0, 100)", BAD);
        refused(Script.BUSY, "plan(0, 1, 0, " + GREATEST + ")", BAD);
    }

    @Says("(f is not looked at)")
    static void promise5LiesAndCallsBackDontLookAtF() {
        for (int f : new int[] {LEAST, -1, 0, 100, GREATEST}) {
            HookTrays x = held(ROW, 4, 3).made();
            due(x, "plan(3, 1, 1, " + f + ")", 1);
            due(x, "plan(3, 2, 2, " + f + ")", 2);
            due(x, "filter(0, 3)", 0);
            holds(x, 0);
            due(x, "about(3, 3)", 1);
            noneThrown(x);
        }
    }

    @Says({"12 PLANS at most stand", "how many PLANS stand", "FULL."})
    static void promise5The12thIsTheLast() {
        HookTrays x = held(ROW, 7, 6).made();
        for (int n = 1; n <= 6; n++) {
            due(x, "plan(0, " + n + ", 0, 1)", 2 * n - 1);
            due(x, "plan(3, " + n + ", 1, 1)", 2 * n);
        }
        due(x, "plan(1, 1, 2, 1)", FULL);
        due(x, "count(3)", 12);
        due(x, "about(0, 4)", 6);
        due(x, "about(1, 4)", 0);
        due(x, "about(3, 4)", 6);
    }

    @Says("FULL.")
    static void promise5A13thChangesNothing() {
        refused(PLANS_12, "plan(0, 7, 0, 1)", FULL);
        refused(PLANS_12, "plan(1, 1, 1, 1)", FULL);
        refused(PLANS_12, "plan(3, 1000, 2, 1)", FULL);
    }

    @Says("Of several the first")
    static void promise5BadComesAheadOfFull() {
        refused(PLANS_12, "plan(5, 7, 0, 1)", BAD);
        refused(PLANS_12, "plan(0, 1001, 0, 1)", BAD);
        refused(PLANS_12, "plan(0, 7, 3, 1)", BAD);
        refused(PLANS_12, "plan(0, 7, 0, 100)", BAD);
    }

    @Says("One that stands for this CALL goes.")
    static void promise5OneThatStandsForTheCallGoes() {
        HookTrays x = KEEPS_ALL.and("plan(0, 2, 0, 5)").made();
        due(x, "plan(0, 2, 0, 6)", 1);
        due(x, "filter(0, 0)", 2);
        thrown(x, 6, 0, 2, 1);
        due(x, "filter(0, 0)", 0);
    }

    @Says("One that stands for this CALL goes.")
    static void promise5OneThatThrowsGoesForOneThatDoesNot() {
        HookTrays x = KEEPS_ALL.and("plan(0, 1, 0, 5)", "plan(0, 40, 0, 6)").made();
        due(x, "plan(0, 1, 1, 0)", 2);
        due(x, "plan(0, 40, 2, 0)", 2);
        due(x, "filter(0, 0)", 0);
        due(x, "whole(0, 1)", 39);
        due(x, "about(0, 3)", 1);
    }

    @Says("One that stands for this CALL goes.")
    static void promise5OneOf12GivesItsPlace() {
        HookTrays x = PLANS_12.made();
        due(x, "plan(0, 1, 0, 77)", 12);
        due(x, "plan(3, 6, 0, 78)", 12);
        due(x, "sort(0, 0)", 1);
        due(x, "thrown(0)", 77);
        due(x, "count(3)", 11);
    }

    @Says("One that stands for this CALL goes.")
    static void promise5ThatOfAnotherHookStays() {
        HookTrays x = held(ROW, 5, 4).and("plan(0, 1, 0, 7)").made();
        due(x, "plan(3, 1, 0, 8)", 2);
        due(x, "filter(0, 3)", 2);
        thrown(x, 8, 3, 1, 0);
        due(x, "sort(0, 0)", 1);
        thrown(x, 7, 0, 1, 0);
    }

    @Says("One that stands for this CALL goes.")
    static void promise5ThoseForTheCallsBesideItStay() {
        HookTrays x = KEEPS_ALL.and("plan(0, 1, 0, 5)", "plan(0, 3, 0, 7)").made();
        due(x, "plan(0, 2, 0, 6)", 3);
        for (int call = 1; call <= 3; call++) {
            due(x, "filter(0, 0)", 2);
            thrown(x, 4 + call, 0, call, 0);
        }
    }

    @Says("one is gone when its CALL comes")
    static void promise5OneIsGoneWhenItsCallComes() {
        HookTrays x = KEEPS_ALL.and("plan(0, 1, 2, 0)", "plan(0, 2, 1, 0)", "plan(0, 3, 0, 9)").made();
        due(x, "filter(0, 0)", 2);
        thrown(x, 9, 0, 3, 2);
        due(x, "count(3)", 0);
        due(x, "about(0, 4)", 0);
        due(x, "filter(0, 0)", 0);
    }

    @Says("one is gone when its CALL comes")
    static void promise5OneWhoseCallDidNotComeStands() {
        HookTrays x = KEEPS_ALL.and("plan(0, 41, 0, 9)").made();
        due(x, "filter(0, 0)", 0);
        due(x, "count(3)", 1);
        due(x, "filter(0, 0)", 2);
        thrown(x, 9, 0, 41, 0);
    }

    @Says({"12 PLANS at most stand", "one is gone when its CALL comes"})
    static void promise5OneThatIsGoneMakesRoom() {
        HookTrays x = PLANS_12.made();
        due(x, "filter(0, 3)", 2);
        due(x, "plan(1, 1, 0, 50)", 12);
        due(x, "plan(1, 2, 0, 50)", FULL);
    }

    @Says("a comparing one answers with the other sign")
    static void promise5ALieAboutLikeOnes() {
        for (int hook = 0; hook <= 2; hook++) {
            HookTrays x = Script.HOOKS.cards(5, 5).and("tray(1, " + hook + ")", "put(0, 0)").made();
            due(x, "plan(" + hook + ", 1, 1, 0)", 1);
            due(x, "put(0, 1)", 0);
            holds(x, 0, 0, 1);
        }
    }

    @Says("a comparing one answers with the other sign")
    static void promise5ALieAboutLeastAndGreatest() {
        HookTrays x = held(SORTED, LEAST).cards(GREATEST).and("plan(0, 1, 1, 0)").made();
        due(x, "put(0, 1)", 0);
        holds(x, 0, 1, 0);
        due(x, "plan(0, 1, 1, 0)", 1);
        due(x, "find(0, 0)", 2);
    }

    @Says("KEEPING 1 for 0 and 0 for 1")
    static void promise5KeepingLiesBothWays() {
        HookTrays x = held(ROW, 4, 3, 4, 3).and("plan(3, 1, 1, 0)", "plan(3, 2, 1, 0)").made();
        due(x, "filter(0, 3)", 0);
        holds(x, 0, 1, 2);
    }

    @Says({"ADDING makes it less a", "(wrapping)"})
    static void promise5AddingLiesAndWraps() {
        int[][] cases = {{LEAST, 1, GREATEST}, {GREATEST, -1, LEAST}, {0, LEAST, LEAST}, {-1, LEAST, GREATEST},
            {LEAST, LEAST, 0}, {GREATEST, GREATEST, 0}, {LEAST, GREATEST, 1}};
        for (int[] c : cases) {
            HookTrays x = Script.EMPTY.and("hook(4, " + c[1] + ")").cards(c[0]).and("tray(0, 0)", "put(0, 0)").made();
            due(x, "plan(0, 1, 1, 0)", 1);
            due(x, "change(0, 0)", 0);
            due(x, "told(1, 0)", c[2]);
        }
    }

    @Says({"is refused, and the CALL goes on as without", "(A MISUSE is no FAILURE.)"})
    static void promise5ACallBackIsRefusedInEachKind() {
        int[][] due = {{0, 1, 2, 3}, {3, 1, 0, 2}, {3, 1, 2, 0}};
        for (int kind = ROW; kind <= HEAP; kind++) {
            HookTrays x = held(kind, 5, 3, 9).cards(1).and("plan(0, 1, 2, 0)", "plan(3, 1, 2, 0)").made();
            due(x, "put(0, 3)", 0);
            holds(x, 0, due[kind]);
            due(x, "about(0, 3)", kind == ROW ? 0 : 1);
            due(x, "filter(0, 3)", 0);
            due(x, "about(3, 3)", 1);
            noneThrown(x);
            due(x, "count(4)", 5);
            due(x, "count(5)", 0);
        }
    }

    @Says("is refused, and the CALL goes on as without")
    static void promise5ACallBackOnAFullTray() {
        HookTrays x = full(ROW).made();
        due(x, "plan(0, 1, 2, 0)", 1);
        due(x, "sort(0, 0)", 0);
        due(x, "whole(0, 1)", 40);
        due(x, "about(0, 3)", 1);
        due(x, "count(4)", 41);
    }

    @Says("is refused, and the CALL goes on as without")
    static void promise5ACallBackWhereOneIsTakenFromAFullHeap() {
        HookTrays x = full(HEAP).and("plan(0, 1, 2, 0)", "plan(0, 2, 2, 0)").made();
        due(x, "first(0)", 0);
        due(x, "whole(0, 1)", 39);
        due(x, "about(0, 3)", 2);
    }

    @Says("is refused, and the CALL goes on as without")
    static void promise5ACallBackInFindAllAndChange() {
        HookTrays x = held(SORTED, 1, 2).and("tray(1, 0)", "put(1, 0)", "tray(0, 0)", "put(2, 1)").made();
        due(x, "plan(0, 1, 2, 0)", 1);
        due(x, "find(0, 0)", 1);
        holds(x, 0, 0, 1);
        due(x, "plan(0, 1, 2, 0)", 1);
        due(x, "all(1, 0)", 0);
        holds(x, 0, 0, 0, 1);
        holds(x, 1);
        due(x, "about(0, 3)", 2);
        due(x, "plan(4, 1, 2, 0)", 1);
        due(x, "change(2, 4)", 0);
        holds(x, 2, 2);
        due(x, "told(2, 0)", 12);
        due(x, "about(4, 3)", 1);
    }

    // ---- 6, clearPlans

    @Says("All PLANS go: how many.")
    static void promise6NoneStand() {
        HookTrays x = held(ROW, 5, 4).made();
        due(x, "clearPlans()", 0);
        due(x, "clearPlans()", 0);
        due(x, "count(3)", 0);
    }

    @Says("All PLANS go: how many.")
    static void promise6All12() {
        HookTrays x = PLANS_12.made();
        due(x, "clearPlans()", 12);
        due(x, "clearPlans()", 0);
        due(x, "count(3)", 0);
        for (int hook = 0; hook <= 4; hook++) {
            due(x, "about(" + hook + ", 4)", 0);
        }
    }

    @Says("All PLANS go: how many.")
    static void promise6NoCallMeetsThem() {
        HookTrays x = PLANS_12.and("plan(0, 1, 1, 0)", "plan(0, 2, 2, 0)", "clearPlans()").made();
        due(x, "sort(0, 0)", 0);
        holds(x, 0, 1, 0);
        due(x, "sort(0, 0)", 0);
        due(x, "about(0, 3)", 0);
        due(x, "filter(0, 3)", 0);
        due(x, "count(5)", 0);
    }

    @Says("All PLANS go: how many.")
    static void promise6Then12MayStandAgain() {
        HookTrays x = PLANS_12.and("clearPlans()").made();
        for (int n = 1; n <= 12; n++) {
            due(x, "plan(0, " + n + ", 0, " + n + ")", n);
        }
        due(x, "plan(0, 13, 0, 1)", FULL);
        due(x, "clearPlans()", 12);
    }

    @Says("All PLANS go: how many.")
    static void promise6ThoseWhoseCallCameAreNotCounted() {
        HookTrays x = PLANS_12.and("filter(0, 3)", "sort(0, 0)").made();
        due(x, "clearPlans()", 10);
    }

    @Says("All PLANS go: how many.")
    static void promise6IsNoAct() {
        HookTrays x = Script.BUSY.made();
        due(x, "clearPlans()", 6);
        thrown(x, 33, 3, 2, 1);
        due(x, "about(3, 2)", 2);
        due(x, "about(0, 3)", 1);
        due(x, "count(4)", 11);
        due(x, "count(5)", 1);
    }

    // ---- 7, about

    @Says("4 PLANS that stand for it. BAD.")
    static void promise7AHookBelow0IsBad() {
        for (int what = 0; what <= 4; what++) {
            refused(Script.BUSY, "about(-1, " + what + ")", BAD);
        }
        refused(Script.BUSY, "about(" + LEAST + ", 0)", BAD);
    }

    @Says("4 PLANS that stand for it. BAD.")
    static void promise7TheHookBehindTheLastIsBad() {
        for (int what = 0; what <= 4; what++) {
            refused(Script.BUSY, "about(5, " + what + ")", BAD);
        }
        refused(Script.BUSY, "about(" + GREATEST + ", 0)", BAD);
        HookTrays x = Script.BUSY.made();
        due(x, "about(4, 0)", 4);
    }

    @Says("4 PLANS that stand for it. BAD.")
    static void promise7TheHookBehind8() {
        HookTrays x = Script.HOOKS.and("hook(2, 0)", "hook(1, 0)", "hook(3, 0)").made();
        due(x, "about(7, 0)", 3);
        due(x, "about(8, 0)", BAD);
    }

    @Says("4 PLANS that stand for it. BAD.")
    static void promise7WhatBelow0IsBad() {
        refused(Script.BUSY, "about(0, -1)", BAD);
        refused(Script.BUSY, "about(0, " + LEAST + ")", BAD);
    }

    @Says("4 PLANS that stand for it. BAD.")
    static void promise7WhatAbove4IsBad() {
        refused(Script.BUSY, "about(0, 5)", BAD);
        refused(Script.BUSY, "about(0, " + GREATEST + ")", BAD);
    }

    @Says("0 KIND, 1 CALLS, 2 CALLS of the latest ACT, 3 MISUSES, 4 PLANS that stand for it.")
    static void promise7OfAHookThatWasNeverAsked() {
        HookTrays x = Script.BUSY.and("hook(2, 0)").made();
        due(x, "about(5, 0)", 2);
        for (int what = 1; what <= 4; what++) {
            due(x, "about(5, " + what + ")", 0);
        }
    }

    @Says("2 CALLS of the latest ACT")
    static void promise7AnActThatAsksNone() {
        HookTrays x = held(SORTED, 1, 2, 3, 4).made();
        asked(x, 2);
        due(x, "take(0, 0)", 0);
        asked(x, 0);
        due(x, "about(0, 1)", 4);
    }

    @Says("2 CALLS of the latest ACT")
    static void promise7ARefusedCallIsNoAct() {
        HookTrays x = held(SORTED, 1, 2, 3, 4).made();
        due(x, "put(0, 4)", BAD);
        due(x, "sort(0, 0)", NO);
        asked(x, 2);
    }

    @Says("1 CALLS")
    static void promise7TheCallThatThrewIsCounted() {
        HookTrays x = held(SORTED, 1, 2).and("plan(0, 2, 0, 5)").made();
        due(x, "about(0, 1)", 1);
        due(x, "put(0, 1)", 0);
        due(x, "about(0, 1)", 2);
        due(x, "put(0, 1)", 1);
        due(x, "about(0, 1)", 3);
        asked(x, 1);
    }

    @Says("3 MISUSES")
    static void promise7MisusesOfAnActThatIsUndone() {
        HookTrays x = held(ROW, 3, 2, 1).and("plan(0, 1, 2, 0)", "plan(0, 2, 0, 5)").made();
        due(x, "sort(0, 0)", 1);
        due(x, "about(0, 3)", 1);
        due(x, "about(1, 3)", 0);
    }

    @Says("4 PLANS that stand for it.")
    static void promise7All12ForOne() {
        HookTrays x = Script.HOOKS.made();
        for (int n = 1; n <= 12; n++) {
            due(x, "plan(2, " + n + ", 1, 0)", n);
            due(x, "about(2, 4)", n);
        }
        due(x, "about(1, 4)", 0);
    }
}
