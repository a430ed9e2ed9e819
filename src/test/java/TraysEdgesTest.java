/** Promises 8 to 13: a test of its own for each sentence that names a boundary case. */
public final class TraysEdgesTest extends Edges {
    private static final int[] OUTSIDE = {LEAST, -1, 5, GREATEST};

    public static void main(String[] args) throws IllegalAccessException {
        run(TraysEdgesTest.class);
    }

    // ---- 8, tray

    @Says("of KINDS 0 ROW; 1 SORTED by a HOOK that compares; 2 HEAP by one")
    static void promise8Kinds0To2() {
        HookTrays x = Script.HOOKS.made();
        for (int kind = ROW; kind <= HEAP; kind++) {
            due(x, "tray(" + kind + ", 0)", kind);
            due(x, "whole(" + kind + ", 0)", kind);
            holds(x, kind);
        }
    }

    @Says("BAD; NO: the HOOK does not compare. FULL.")
    static void promise8AKindBelow0IsBad() {
        refused(Script.BUSY, "tray(-1, 0)", BAD);
        refused(Script.BUSY, "tray(" + LEAST + ", 0)", BAD);
    }

    @Says("BAD; NO: the HOOK does not compare. FULL.")
    static void promise8AKindAbove2IsBad() {
        refused(Script.BUSY, "tray(3, 0)", BAD);
        refused(Script.BUSY, "tray(" + GREATEST + ", 0)", BAD);
    }

    @Says("BAD; NO: the HOOK does not compare. FULL.")
    static void promise8AHookThatIsNoneIsBad() {
        for (int hook : OUTSIDE) {
            refused(Script.BUSY, "tray(1, " + hook + ")", BAD);
            refused(Script.BUSY, "tray(2, " + hook + ")", BAD);
        }
    }

    @Says("by a HOOK (ROW: not looked at)")
    static void promise8ARowLooksAtNoHook() {
        HookTrays x = Script.HOOKS.made();
        int[] hooks = {LEAST, -1, 3, 4, 5, GREATEST};
        for (int tray = 0; tray < hooks.length; tray++) {
            due(x, "tray(0, " + hooks[tray] + ")", tray);
            due(x, "whole(" + tray + ", 2)", NONE);
        }
    }

    @Says("by a HOOK (ROW: not looked at)")
    static void promise8ARowWhereThereIsNoHook() {
        due(new HookTrays(), "tray(0, 0)", 0);
    }

    @Says("NO: the HOOK does not compare.")
    static void promise8AHookThatDoesNotCompare() {
        for (int hook = 3; hook <= 4; hook++) {
            refused(Script.BUSY, "tray(1, " + hook + ")", NO);
            refused(Script.BUSY, "tray(2, " + hook + ")", NO);
        }
    }

    @Says("1 SORTED by a HOOK that compares; 2 HEAP by one")
    static void promise8EachHookThatCompares() {
        HookTrays x = Script.HOOKS.made();
        for (int hook = 0; hook <= 2; hook++) {
            due(x, "tray(1, " + hook + ")", 2 * hook);
            due(x, "tray(2, " + hook + ")", 2 * hook + 1);
            due(x, "whole(" + 2 * hook + ", 2)", hook);
            due(x, "whole(" + (2 * hook + 1) + ", 2)", hook);
        }
    }

    @Says({"TRAYS 0, 1, .. as they come, 6 at most", "FULL."})
    static void promise8The6thIsTheLast() {
        HookTrays x = Script.BUSY.made();
        due(x, "tray(2, 1)", 5);
        due(x, "tray(2, 1)", FULL);
        due(x, "count(2)", 6);
        due(x, "whole(5, 0)", 2);
        due(x, "whole(6, 0)", BAD);
    }

    @Says("FULL.")
    static void promise8A7thChangesNothing() {
        for (int kind = ROW; kind <= HEAP; kind++) {
            refused(Script.BUSY.and("tray(0, 0)"), "tray(" + kind + ", 1)", FULL);
        }
    }

    @Says("Of several the first")
    static void promise8BadComesAheadOfNo() {
        refused(Script.BUSY, "tray(3, 3)", BAD);
        refused(Script.BUSY, "tray(-1, 4)", BAD);
    }

    @Says("Of several the first")
    static void promise8BadAndNoComeAheadOfFull() {
        Script six = Script.BUSY.and("tray(0, 0)");
        refused(six, "tray(3, 0)", BAD);
        refused(six, "tray(-1, 0)", BAD);
        refused(six, "tray(1, 5)", BAD);
        refused(six, "tray(1, 3)", NO);
        refused(six, "tray(2, 4)", NO);
    }

    @Says("TRAYS 0, 1, .. as they come")
    static void promise8ARefusedTrayHasNoNumber() {
        HookTrays x = Script.HOOKS.made();
        due(x, "tray(2, 2)", 0);
        due(x, "tray(2, 3)", NO);
        due(x, "tray(2, 5)", BAD);
        due(x, "tray(1, 1)", 1);
        due(x, "whole(1, 0)", 1);
        due(x, "whole(1, 2)", 1);
        due(x, "count(4)", 0);
    }

    // ---- 9, put

    @Says({"The OUTCOME (0, 1). BAD; FULL.", "BAD: a number is none that is told, there is no such thing."})
    static void promise9ATrayThatIsNoneIsBad() {
        for (int tray : OUTSIDE) {
            refused(Script.BUSY, "put(" + tray + ", 0)", BAD);
        }
        due(Script.BUSY.made(), "put(4, 0)", 0);
    }

    @Says("The OUTCOME (0, 1). BAD; FULL.")
    static void promise9ACardThatIsNoneIsBad() {
        for (int tray = 0; tray <= 2; tray++) {
            for (int card : new int[] {LEAST, -1, 4, GREATEST}) {
                refused(Script.BUSY, "put(" + tray + ", " + card + ")", BAD);
            }
        }
        due(Script.BUSY.made(), "put(0, 3)", 0);
    }

    @Says({"low 0, high how many there are", "as long as i is above 0"})
    static void promise9TheFirstOnAnEmptyTrayAsksNone() {
        for (int kind = ROW; kind <= HEAP; kind++) {
            HookTrays x = held(kind).cards(5).and("plan(0, 1, 0, 1)").made();
            due(x, "put(0, 0)", 0);
            holds(x, 0, 0);
            asked(x, 0);
            due(x, "count(3)", 1);
        }
    }

    @Says({"hold up to 40 CARDS", "BAD; FULL."})
    static void promise9The40thIsTheLast() {
        for (int kind = ROW; kind <= HEAP; kind++) {
            HookTrays x = full(kind).cards(6).and("take(0, 39)").made();
            due(x, "put(0, 1)", 0);
            due(x, "put(0, 1)", FULL);
            due(x, "whole(0, 1)", 40);
            due(x, "at(0, 38)", 0);
            due(x, "at(0, 39)", 1);
        }
    }

    @Says({"FULL.", "nothing changes then, and no HOOK is asked"})
    static void promise9A41stChangesNothing() {
        for (int kind = ROW; kind <= HEAP; kind++) {
            refused(full(kind), "put(0, 0)", FULL);
            refused(full(kind).and("plan(0, 1, 0, 7)"), "put(0, 0)", FULL);
            refused(full(kind).and("plan(0, 1, 2, 0)"), "put(0, 0)", FULL);
        }
    }

    @Says("Of several the first")
    static void promise9BadComesAheadOfFull() {
        for (int kind = ROW; kind <= HEAP; kind++) {
            refused(full(kind), "put(0, 1)", BAD);
            refused(full(kind), "put(0, -1)", BAD);
        }
    }

    @Says("(a CARD may be held more than once)")
    static void promise9ACardIsHeldMoreThanOnce() {
        HookTrays x = Script.HOOKS.cards(5).and("tray(0, 0)", "tray(1, 0)", "tray(2, 0)").made();
        for (int tray = 0; tray <= 2; tray++) {
            for (int i = 0; i < 3; i++) {
                due(x, "put(" + tray + ", 0)", 0);
            }
            holds(x, tray, 0, 0, 0);
        }
        due(x, "count(0)", 1);
    }

    @Says("below 0: high is m, else low is m + 1: the PLACE is low")
    static void promise9HalvingOfOne() {
        int[][] due = {{1, 0}, {0, 1}, {0, 1}};
        for (int weight = 4; weight <= 6; weight++) {
            HookTrays x = held(SORTED, 5).cards(weight).made();
            due(x, "put(0, 1)", 0);
            holds(x, 0, due[weight - 4]);
            asked(x, 1);
        }
    }

    @Says("while low is below high: m, their half, cut")
    static void promise9HalvingDownToPlace0() {
        HookTrays x = held(SORTED, tens(39)).cards(5).made();
        due(x, "put(0, 39)", 0);
        asked(x, 6);
        due(x, "at(0, 0)", 39);
        due(x, "at(0, 1)", 0);
        due(x, "at(0, 39)", 38);
    }

    @Says("while low is below high: m, their half, cut")
    static void promise9HalvingUpToTheEnd() {
        HookTrays x = held(SORTED, tens(39)).cards(391).made();
        due(x, "put(0, 39)", 0);
        asked(x, 5);
        due(x, "at(0, 38)", 38);
        due(x, "at(0, 39)", 39);
    }

    @Says("while low is below high: m, their half, cut")
    static void promise9HalvingOfEvenAndOddNumbers() {
        int[] downwards = {1, 2, 2, 3, 3, 3, 3, 4};
        int[] upwards = {1, 1, 2, 2, 2, 2, 3, 3};
        for (int many = 1; many <= 8; many++) {
            HookTrays x = held(SORTED, tens(many)).cards(5, 95).made();
            due(x, "put(0, " + many + ")", 0);
            due(x, "at(0, 0)", many);
            asked(x, downwards[many - 1]);
            due(x, "take(0, 0)", 0);
            due(x, "put(0, " + (many + 1) + ")", 0);
            due(x, "at(0, " + many + ")", many + 1);
            asked(x, upwards[many - 1]);
        }
    }

    @Says("else low is m + 1")
    static void promise9HalvingGoesBehindLikeOnes() {
        HookTrays x = held(SORTED, alike(39)).cards(5).made();
        due(x, "put(0, 39)", 0);
        asked(x, 5);
        due(x, "at(0, 39)", 39);
    }

    @Says("p is (i - 1) / 2, cut")
    static void promise9UpFromPlaces1And2() {
        HookTrays x = held(HEAP, 5).cards(4, 3).made();
        due(x, "put(0, 1)", 0);
        holds(x, 0, 1, 0);
        asked(x, 1);
        due(x, "put(0, 2)", 0);
        holds(x, 0, 2, 0, 1);
        asked(x, 1);
    }

    @Says("as long as i is above 0")
    static void promise9UpFromPlace39To0() {
        HookTrays x = held(HEAP, tens(39)).cards(5).made();
        due(x, "put(0, 39)", 0);
        asked(x, 5);
        int[] cards = upTo(40);
        cards[39] = 19;
        cards[19] = 9;
        cards[9] = 4;
        cards[4] = 1;
        cards[1] = 0;
        cards[0] = 39;
        holds(x, 0, cards);
    }

    @Says("below 0: they change places, and i is p; else it ends")
    static void promise9UpEndsAtALikeOne() {
        HookTrays x = held(HEAP, 5, 9, 9, 9).cards(5).made();
        due(x, "put(0, 4)", 0);
        holds(x, 0, 0, 4, 2, 3, 1);
        asked(x, 2);
    }

    @Says("The OUTCOME (0, 1).")
    static void promise9ThrowsAtTheFirstOrTheLastCall() {
        for (int kind = SORTED; kind <= HEAP; kind++) {
            int[] calls = {1, kind == SORTED ? 6 : 5};
            for (int call : calls) {
                HookTrays x = held(kind, tens(39)).cards(5).and("plan(0, " + call + ", 0, 42)").made();
                int before = (int) Calls.ask(x, "about(0, 1)");
                due(x, "put(0, 39)", 1);
                thrown(x, 42, 0, before + call, 0);
                asked(x, call);
                holds(x, 0, upTo(39));
                due(x, "put(0, 39)", 0);
                due(x, "at(0, 0)", 39);
            }
        }
    }

    @Says("The OUTCOME (0, 1).")
    static void promise9APlanBehindTheLastCallStands() {
        for (int kind = SORTED; kind <= HEAP; kind++) {
            int behind = kind == SORTED ? 7 : 6;
            HookTrays x = held(kind, tens(39)).cards(5).and("plan(0, " + behind + ", 0, 42)").made();
            due(x, "put(0, 39)", 0);
            due(x, "count(3)", 1);
        }
    }

    @Says({"0 LIGHTER, 1 HEAVIER", "they answer -1 (the one ahead), 1, or 0 (neither)"})
    static void promise9LeastAndGreatestWeightAreCompared() {
        int[][] due = {{1, 3, 2, 0}, {0, 2, 3, 1}, {1, 3, 2, 0}};
        for (int hook = 0; hook <= 2; hook++) {
            HookTrays x = Script.HOOKS.cards(GREATEST, LEAST, 1, -2).and("tray(1, " + hook + ")")
                .puts(0, upTo(4)).made();
            holds(x, 0, due[hook]);
        }
    }

    @Says("2 MARKED (by MARKS, the lesser first, of like ones the lesser WEIGHT)")
    static void promise9LikeMarks() {
        HookTrays x = Script.HOOKS.and("card(" + GREATEST + ", 5)", "card(" + LEAST + ", 5)", "card(0, 99)",
            "card(9, 0)", "card(" + GREATEST + ", 5)", "tray(1, 2)").puts(0, upTo(5)).made();
        holds(x, 0, 3, 1, 0, 4, 2);
    }

    // ---- 10, take

    @Says("BAD: also the PLACE.")
    static void promise10ATrayThatIsNoneIsBad() {
        for (int tray : OUTSIDE) {
            refused(Script.BUSY, "take(" + tray + ", 0)", BAD);
        }
    }

    @Says("BAD: also the PLACE.")
    static void promise10APlaceBelow0IsBad() {
        for (int tray = 0; tray <= 2; tray++) {
            refused(Script.BUSY, "take(" + tray + ", -1)", BAD);
            refused(Script.BUSY, "take(" + tray + ", " + LEAST + ")", BAD);
        }
    }

    @Says("BAD: also the PLACE.")
    static void promise10ThePlaceBehindTheLastIsBad() {
        int[] held = {3, 2, 3, 1, 0};
        for (int tray = 0; tray < held.length; tray++) {
            refused(Script.BUSY, "take(" + tray + ", " + held[tray] + ")", BAD);
            refused(Script.BUSY, "take(" + tray + ", 39)", BAD);
            refused(Script.BUSY, "take(" + tray + ", " + GREATEST + ")", BAD);
        }
    }

    @Says("BAD: also the PLACE.")
    static void promise10OfAnEmptyTrayEveryPlaceIsBad() {
        for (int kind = ROW; kind <= HEAP; kind++) {
            refused(held(kind), "take(0, 0)", BAD);
            refused(held(kind, 5).and("take(0, 0)"), "take(0, 0)", BAD);
        }
    }

    @Says({"hold up to 40 CARDS", "BAD: also the PLACE."})
    static void promise10ThePlacesOfAFullTray() {
        for (int kind = ROW; kind <= HEAP; kind++) {
            refused(full(kind), "take(0, 40)", BAD);
            HookTrays x = full(kind).made();
            due(x, "take(0, 39)", 0);
            due(x, "take(0, 39)", BAD);
            due(x, "take(0, 0)", 0);
            due(x, "whole(0, 1)", 38);
        }
    }

    @Says("The CARD in a PLACE goes.")
    static void promise10TheFirstAndTheLastPlace() {
        for (int kind = ROW; kind <= SORTED; kind++) {
            HookTrays x = held(kind, 1, 2, 3, 4).and("plan(0, 1, 0, 1)").made();
            due(x, "take(0, 0)", 0);
            holds(x, 0, 1, 2, 3);
            asked(x, 0);
            due(x, "take(0, 2)", 0);
            holds(x, 0, 1, 2);
            due(x, "take(0, 1)", 0);
            due(x, "take(0, 0)", 0);
            holds(x, 0);
            due(x, "count(3)", 1);
        }
    }

    @Says("the last one comes there (if it was not that)")
    static void promise10TheLastOfAHeapAsksNone() {
        for (int many = 1; many <= 5; many++) {
            HookTrays x = held(HEAP, tens(many)).and("plan(0, 1, 0, 1)").made();
            due(x, "take(0, " + (many - 1) + ")", 0);
            holds(x, 0, upTo(many - 1));
            asked(x, 0);
            due(x, "count(3)", 1);
        }
    }

    @Says({"as long as i is above 0", "as long as there is a PLACE 2 i + 1"})
    static void promise10OfAHeapOfTwoTheFirst() {
        HookTrays x = held(HEAP, 1, 2).and("plan(0, 1, 0, 1)").made();
        due(x, "take(0, 0)", 0);
        holds(x, 0, 1);
        asked(x, 0);
    }

    @Says({"as long as there is a PLACE 2 i + 1", "if there is 2 i + 2"})
    static void promise10DownWhereThereIsOneBelow() {
        HookTrays x = held(HEAP, 1, 2, 3).made();
        due(x, "take(0, 0)", 0);
        holds(x, 0, 1, 2);
        asked(x, 1);
        HookTrays y = held(HEAP, 1, 3, 2).made();
        due(y, "take(0, 0)", 0);
        holds(y, 0, 2, 1);
        asked(y, 1);
    }

    @Says({"if there is 2 i + 2", "below 0: k is 2 i + 2"})
    static void promise10DownWhereThereAreTwoBelow() {
        HookTrays x = held(HEAP, 1, 3, 2, 9).made();
        due(x, "take(0, 0)", 0);
        holds(x, 0, 2, 1, 3);
        asked(x, 2);
        HookTrays y = held(HEAP, 1, 2, 3, 9).made();
        due(y, "take(0, 0)", 0);
        holds(y, 0, 1, 3, 2);
        asked(y, 2);
    }

    @Says("below 0: k is 2 i + 2")
    static void promise10DownOfTwoLikeOnesTheNearer() {
        HookTrays x = held(HEAP, 1, 2, 2, 9).made();
        due(x, "take(0, 0)", 0);
        holds(x, 0, 1, 3, 2);
        asked(x, 2);
    }

    @Says("below 0: they change places, and i is k; else it ends")
    static void promise10DownEndsAtALikeOne() {
        HookTrays x = held(HEAP, 5, 5, 5, 5).made();
        due(x, "take(0, 0)", 0);
        holds(x, 0, 3, 1, 2);
        asked(x, 2);
    }

    @Says("as long as there is a PLACE 2 i + 1")
    static void promise10DownFromPlace0Of40() {
        HookTrays x = held(HEAP, tens(40)).made();
        due(x, "take(0, 0)", 0);
        asked(x, 10);
        int[] cards = upTo(39);
        cards[0] = 1;
        cards[1] = 3;
        cards[3] = 7;
        cards[7] = 15;
        cards[15] = 31;
        cards[31] = 39;
        holds(x, 0, cards);
    }

    /** The way down is 0, 1, 3, 8, 18, then 37, which is the last of 38, or 38, the last of 39. */
    @Says({"as long as there is a PLACE 2 i + 1", "if there is 2 i + 2"})
    static void promise10DownToTheVeryLastPlace() {
        for (int many = 39; many <= 40; many++) {
            int[] weights = tens(many);
            weights[7] = 95;
            weights[17] = 195;
            weights[37] = many == 39 ? 380 : 395;
            HookTrays x = held(HEAP, weights).made();
            due(x, "take(0, 0)", 0);
            asked(x, many == 39 ? 9 : 10);
            int[] cards = upTo(many - 1);
            cards[0] = 1;
            cards[1] = 3;
            cards[3] = 8;
            cards[8] = 18;
            cards[18] = many - 2;
            cards[many - 2] = many - 1;
            holds(x, 0, cards);
        }
    }

    @Says("and goes UP, and if it did not move by that, DOWN")
    static void promise10OneThatWentUpDoesNotGoDown() {
        HookTrays x = held(HEAP, 1, 10, 2, 11, 12, 3, 4).made();
        due(x, "take(0, 3)", 0);
        holds(x, 0, 0, 6, 2, 1, 4, 5);
        asked(x, 2);
    }

    @Says("and goes UP, and if it did not move by that, DOWN")
    static void promise10OneThatDidNotGoUpGoesDown() {
        HookTrays x = held(HEAP, 1, 2, 3, 4, 5, 6, 7, 8, 9).made();
        due(x, "take(0, 1)", 0);
        holds(x, 0, 0, 3, 2, 7, 4, 5, 6, 8);
        asked(x, 4);
    }

    @Says("The OUTCOME (0, 1).")
    static void promise10ThrowsAtTheFirstOrTheLastCall() {
        for (int call : new int[] {1, 2, 9, 10}) {
            HookTrays x = held(HEAP, tens(40)).and("plan(0, " + call + ", 0, 42)").made();
            int before = (int) Calls.ask(x, "about(0, 1)");
            due(x, "take(0, 0)", 1);
            thrown(x, 42, 0, before + call, 0);
            holds(x, 0, upTo(40));
        }
    }

    @Says("The OUTCOME (0, 1).")
    static void promise10ThrowsGoingUp() {
        for (int call = 1; call <= 2; call++) {
            HookTrays x = held(HEAP, 1, 10, 2, 11, 12, 3, 4).and("plan(0, " + call + ", 0, 42)").made();
            due(x, "take(0, 3)", 1);
            asked(x, call);
            holds(x, 0, upTo(7));
        }
    }

    // ---- 11, first

    @Says("BAD: also an empty TRAY.")
    static void promise11OfAnEmptyTray() {
        for (int kind = ROW; kind <= HEAP; kind++) {
            refused(held(kind), "first(0)", BAD);
            refused(held(kind, 5).and("first(0)"), "first(0)", BAD);
        }
        refused(Script.BUSY, "first(4)", BAD);
    }

    @Says("BAD: also an empty TRAY.")
    static void promise11ATrayThatIsNoneIsBad() {
        for (int tray : OUTSIDE) {
            refused(Script.BUSY, "first(" + tray + ")", BAD);
        }
    }

    @Says("The first CARD goes (as take() of PLACE 0): its number")
    static void promise11OfOneCard() {
        for (int kind = ROW; kind <= HEAP; kind++) {
            HookTrays x = held(kind, 5).and("plan(0, 1, 0, 1)").made();
            due(x, "first(0)", 0);
            holds(x, 0);
            asked(x, 0);
            due(x, "count(3)", 1);
        }
    }

    @Says("The first CARD goes (as take() of PLACE 0): its number")
    static void promise11OfAFullTray() {
        for (int kind = ROW; kind <= HEAP; kind++) {
            HookTrays x = held(kind, tens(40)).made();
            due(x, "first(0)", 0);
            due(x, "whole(0, 1)", 39);
            due(x, "first(0)", 1);
            due(x, "whole(0, 3)", 1);
        }
    }

    @Says("The first CARD goes (as take() of PLACE 0): its number")
    static void promise11ItsNumberMayBe119() {
        HookTrays x = held(ROW).cards(upTo(120)).and("put(0, 119)").made();
        due(x, "first(0)", 119);
    }

    @Says("(as take() of PLACE 0)")
    static void promise11AsTakeOfPlace0() {
        int[] weights = {1, 2, 9, 3, 4, 10, 11, 5};
        for (int kind = ROW; kind <= HEAP; kind++) {
            HookTrays x = held(kind, weights).and("tray(" + kind + ", 0)").puts(1, upTo(weights.length)).made();
            due(x, "same(0, 1)", 1);
            due(x, "first(0)", 0);
            int calls = (int) Calls.ask(x, "about(0, 2)");
            due(x, "take(1, 0)", 0);
            asked(x, calls);
            due(x, "same(0, 1)", 1);
        }
    }

    @Says("-11, if a HOOK threw (the OUTCOME is 1 then)")
    static void promise11ThrowsAtTheFirstOrTheLastCall() {
        for (int call : new int[] {1, 10}) {
            HookTrays x = held(HEAP, tens(40)).and("plan(0, " + call + ", 0, 42)").made();
            int before = (int) Calls.ask(x, "about(0, 1)");
            due(x, "first(0)", THREW);
            thrown(x, 42, 0, before + call, 0);
            due(x, "count(4)", 41);
            due(x, "count(5)", 1);
            holds(x, 0, upTo(40));
            due(x, "first(0)", 0);
            due(x, "count(5)", 1);
        }
    }

    // ---- 12, find

    @Says("low 0, high how many there are")
    static void promise12InAnEmptyTray() {
        HookTrays x = held(SORTED).cards(5).and("plan(0, 1, 0, 1)").made();
        due(x, "find(0, 0)", 0);
        asked(x, 0);
        due(x, "count(3)", 1);
        due(x, "count(4)", 1);
    }

    @Says("The PLACE of a CARD in a TRAY by HALVING.")
    static void promise12InATrayOfOne() {
        HookTrays x = held(SORTED, 5).cards(4, 5, 6).made();
        int[] due = {1, 0, 1, 1};
        for (int card = 0; card <= 3; card++) {
            due(x, "find(0, " + card + ")", due[card]);
            asked(x, 1);
        }
        holds(x, 0, 0);
    }

    @Says("The PLACE of a CARD in a TRAY by HALVING.")
    static void promise12InAFullTray() {
        HookTrays x = held(SORTED, tens(40)).cards(5, 405).made();
        due(x, "find(0, 40)", 0);
        asked(x, 6);
        due(x, "find(0, 41)", 40);
        asked(x, 5);
        due(x, "find(0, 39)", 40);
        due(x, "find(0, 0)", 1);
        holds(x, 0, upTo(40));
    }

    @Says("The PLACE of a CARD in a TRAY by HALVING.")
    static void promise12BehindAllLikeOnes() {
        HookTrays x = full(SORTED).made();
        due(x, "find(0, 0)", 40);
        asked(x, 5);
    }

    @Says("BAD; NO: it is not SORTED.")
    static void promise12ATrayThatIsNoneIsBad() {
        for (int tray : OUTSIDE) {
            refused(Script.BUSY, "find(" + tray + ", 0)", BAD);
        }
    }

    @Says("BAD; NO: it is not SORTED.")
    static void promise12ACardThatIsNoneIsBad() {
        for (int card : new int[] {LEAST, -1, 4, GREATEST}) {
            refused(Script.BUSY, "find(1, " + card + ")", BAD);
            refused(Script.BUSY, "find(4, " + card + ")", BAD);
        }
    }

    @Says("NO: it is not SORTED.")
    static void promise12ARowOrAHeap() {
        refused(Script.BUSY, "find(0, 0)", NO);
        refused(Script.BUSY, "find(2, 0)", NO);
    }

    @Says("Of several the first")
    static void promise12BadComesAheadOfNo() {
        refused(Script.BUSY, "find(0, 4)", BAD);
        refused(Script.BUSY, "find(2, -1)", BAD);
    }

    @Says("-11, if a HOOK threw.")
    static void promise12ThrowsAtTheFirstOrTheLastCall() {
        for (int call : new int[] {1, 6}) {
            HookTrays x = held(SORTED, tens(40)).cards(5).and("plan(0, " + call + ", 0, 42)").made();
            int before = (int) Calls.ask(x, "about(0, 1)");
            due(x, "find(0, 40)", THREW);
            thrown(x, 42, 0, before + call, 0);
            due(x, "count(4)", 41);
            due(x, "count(5)", 1);
            holds(x, 0, upTo(40));
            due(x, "find(0, 40)", 0);
        }
    }

    // ---- 13, sort

    @Says("pieces of 1, then of 2, 4, .. (as long as that is below how many there are)")
    static void promise13OfNoneAndOfOneAsksNone() {
        for (int many = 0; many <= 1; many++) {
            HookTrays x = held(ROW, tens(many)).and("plan(0, 1, 0, 1)").made();
            due(x, "sort(0, 0)", 0);
            holds(x, 0, upTo(many));
            asked(x, 0);
            due(x, "count(3)", 1);
            due(x, "count(4)", many + 1);
        }
    }

    @Says({"pieces of 1, then of 2, 4, .. (as long as that is below how many there are)",
        "(the last may be shorter, or alone)"})
    static void promise13OfTwoToFiveInOrder() {
        int[] calls = {1, 3, 4, 8};
        for (int many = 2; many <= 5; many++) {
            HookTrays x = held(ROW, tens(many)).made();
            due(x, "sort(0, 0)", 0);
            holds(x, 0, upTo(many));
            asked(x, calls[many - 2]);
        }
    }

    @Says({"pieces of 1, then of 2, 4, .. (as long as that is below how many there are)", "then the rest"})
    static void promise13OfTwoToFiveTheOtherWayRound() {
        int[] calls = {1, 2, 4, 5};
        int[][] due = {{1, 0}, {2, 1, 0}, {3, 2, 1, 0}, {4, 3, 2, 1, 0}};
        for (int many = 2; many <= 5; many++) {
            HookTrays x = held(ROW, tens(many)).and("plan(1, 1000, 0, 1)").made();
            due(x, "sort(0, 1)", 0);
            holds(x, 0, due[many - 2]);
            due(x, "about(1, 2)", calls[many - 2]);
        }
    }

    @Says({"hold up to 40 CARDS", "(the last may be shorter, or alone)"})
    static void promise13OfAFullRow() {
        HookTrays x = held(ROW, tens(40)).made();
        due(x, "sort(0, 0)", 0);
        holds(x, 0, upTo(40));
        asked(x, 124);
        due(x, "sort(0, 1)", 0);
        for (int place = 0; place < 40; place++) {
            due(x, "at(0, " + place + ")", 39 - place);
        }
        due(x, "about(1, 2)", 20 + 20 + 20 + 16 + 16 + 8);
    }

    @Says("below 0 the one of b comes, else that of a")
    static void promise13LikeOnesKeepTheirOrder() {
        HookTrays x = held(ROW, alike(40)).made();
        for (int hook = 0; hook <= 2; hook++) {
            due(x, "sort(0, " + hook + ")", 0);
            holds(x, 0, upTo(40));
            due(x, "about(" + hook + ", 2)", 124);
        }
    }

    @Says("BAD; NO: not a ROW, or the HOOK does not compare.")
    static void promise13ATrayThatIsNoneIsBad() {
        for (int tray : OUTSIDE) {
            refused(Script.BUSY, "sort(" + tray + ", 0)", BAD);
        }
    }

    @Says("BAD; NO: not a ROW, or the HOOK does not compare.")
    static void promise13AHookThatIsNoneIsBad() {
        for (int hook : OUTSIDE) {
            refused(Script.BUSY, "sort(0, " + hook + ")", BAD);
        }
    }

    @Says({"NO: not a ROW, or the HOOK does not compare.", "NO: not for this KIND of TRAY or HOOK."})
    static void promise13ASortedOneOrAHeap() {
        for (int hook = 0; hook <= 2; hook++) {
            refused(Script.BUSY, "sort(1, " + hook + ")", NO);
            refused(Script.BUSY, "sort(2, " + hook + ")", NO);
        }
    }

    @Says({"NO: not a ROW, or the HOOK does not compare.", "NO: not for this KIND of TRAY or HOOK."})
    static void promise13AHookThatDoesNotCompare() {
        refused(Script.BUSY, "sort(0, 3)", NO);
        refused(Script.BUSY, "sort(0, 4)", NO);
        refused(held(ROW), "sort(0, 3)", NO);
    }

    @Says("Of several the first")
    static void promise13BadComesAheadOfNo() {
        refused(Script.BUSY, "sort(1, 5)", BAD);
        refused(Script.BUSY, "sort(2, -1)", BAD);
        refused(Script.BUSY, "sort(5, 3)", BAD);
        refused(Script.BUSY, "sort(-1, 4)", BAD);
    }

    @Says("The OUTCOME (0, 1).")
    static void promise13ThrowsAtTheFirstOrTheLastCall() {
        for (int call : new int[] {1, 2, 99, 100}) {
            HookTrays x = held(ROW, tens(40)).and("plan(1, " + call + ", 0, 42)").made();
            due(x, "sort(0, 1)", 1);
            thrown(x, 42, 1, call, 0);
            due(x, "about(1, 2)", call);
            holds(x, 0, upTo(40));
        }
    }

    @Says("The OUTCOME (0, 1).")
    static void promise13APlanBehindTheLastCallStands() {
        HookTrays x = held(ROW, tens(40)).and("plan(1, 101, 0, 42)").made();
        due(x, "sort(0, 1)", 0);
        due(x, "count(3)", 1);
        due(x, "at(0, 0)", 39);
    }
}
