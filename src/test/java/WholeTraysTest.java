/** Promises 14 to 19: filter, change, all, at, whole, same. */
public final class WholeTraysTest {
    private static final int[] WRONG = {-1, Integer.MIN_VALUE, Integer.MAX_VALUE};
    private static final int BAD = HookTrays.BAD, NO = HookTrays.NO, FULL = HookTrays.FULL, NONE = HookTrays.NONE;
    private static final Check CHECK = new Check("WholeTraysTest");

    public static void main(String[] args) {
        promise14FilterRow();
        promise14FilterSorted();
        promise14FilterHeap();
        promise14FilterHeapThrows();
        promise15Change();
        promise15ChangeThrows();
        promise15ChangeFull();
        promise16AllRows();
        promise16AllSorted();
        promise16AllHeaps();
        promise16AllRefused();
        promise17At();
        promise18Whole();
        promise19Same();
        CHECK.finish();
    }

    /** Hooks 0 LIGHTER, 1 KEEPING 4, 2 ADDING 10, 3 LIGHTER, 4 MARKED; a card of each weight, mark 7. */
    private static HookTrays withCards(int... weights) {
        HookTrays x = new HookTrays();
        x.hook(0, 0);
        x.hook(3, 4);
        x.hook(4, 10);
        x.hook(0, 0);
        x.hook(2, 0);
        for (int weight : weights) {
            x.card(weight, 7);
        }
        return x;
    }

    private static void put(HookTrays x, int tray, int... cards) {
        for (int card : cards) {
            CHECK.due("put(" + tray + ", " + card + ")", x.put(tray, card), 0);
        }
    }

    private static void promise14FilterRow() {
        HookTrays x = withCards(4, 3, 5, 1, 9);
        x.tray(0, 0);
        CHECK.due("an empty one", x.filter(0, 1), 0);
        put(x, 0, 0, 1, 2, 3, 4, 1);
        x.plan(1, 4, 0, 12);
        CHECK.due("throws at 4", x.filter(0, 1), 2);
        CHECK.thrown("throws at 4", x, 12, 1, 4, 3);
        CHECK.holds("1 went, 3 and those behind stay", x, 0, 0, 2, 3, 4, 1);
        CHECK.due("filter", x.filter(0, 1), 0);
        CHECK.thrown("filter", x, 0, NONE, 0, 5);
        CHECK.holds("at least 4", x, 0, 0, 2, 4);
        x.plan(1, 1, 0, 1);
        CHECK.due("throws at 1", x.filter(0, 1), 2);
        CHECK.thrown("throws at 1", x, 1, 1, 10, 0);
        CHECK.holds("all stay", x, 0, 0, 2, 4);
        CHECK.due("comparing", x.filter(0, 0), NO);
        CHECK.due("adding", x.filter(0, 2), NO);
        CHECK.due("no tray", x.filter(1, 1), BAD);
        CHECK.due("bad ahead of no", x.filter(1, 0), BAD);
        CHECK.due("no hook", x.filter(0, 5), BAD);
        for (int wrong : WRONG) {
            CHECK.due("tray " + wrong, x.filter(wrong, 1), BAD);
            CHECK.due("hook " + wrong, x.filter(0, wrong), BAD);
        }
        CHECK.thrown("kept when calls are refused", x, 1, 1, 10, 0);
    }

    private static void promise14FilterSorted() {
        HookTrays x = withCards(1, 2, 5, 6);
        x.tray(1, 0);
        put(x, 0, 0, 1, 2, 3);
        int calls = x.about(0, 1);
        x.plan(1, 2, 0, 5);
        CHECK.due("throws at 2", x.filter(0, 1), 2);
        CHECK.holds("0 went", x, 0, 1, 2, 3);
        x.plan(1, 2, 1, 0);
        CHECK.due("lies at 2", x.filter(0, 1), 0);
        CHECK.holds("1 and 2 went", x, 0, 3);
        CHECK.due("the tray's own hook is not asked", x.about(0, 1), calls);
    }

    private static void promise14FilterHeap() {
        HookTrays x = withCards(1, 9, 2, 10, 11, 4, 5);
        x.tray(2, 0);
        put(x, 0, 0, 1, 2, 3, 4, 5, 6);
        CHECK.due("filter", x.filter(0, 1), 0);
        CHECK.holds("1, 3, 4, 5, 6 put anew", x, 0, 5, 6, 4, 3, 1);
        CHECK.thrown("filter", x, 0, NONE, 0, 7);
        CHECK.due("all are asked about", x.about(1, 2), 7);
        CHECK.due("put anew", x.about(0, 2), 6);
        CHECK.due("when all stay", x.filter(0, 1), 0);
        CHECK.due("it is put anew too", x.about(0, 2), 4);
    }

    private static void promise14FilterHeapThrows() {
        HookTrays x = withCards(1, 9, 2, 10);
        x.tray(2, 0);
        put(x, 0, 0, 1, 2, 3);
        int calls = x.about(0, 1);
        x.plan(1, 3, 0, 21);
        CHECK.due("keeping throws", x.filter(0, 1), 1);
        CHECK.due("its failure", x.thrown(0), 21);
        CHECK.due("its hook", x.thrown(1), 1);
        CHECK.due("its call", x.thrown(2), 3);
        CHECK.due("the heap's hook is not asked", x.about(0, 1), calls);
        CHECK.holds("as it was", x, 0, 0, 1, 2, 3);
        x.plan(0, 1, 0, 22);
        CHECK.due("the heap's hook throws", x.filter(0, 1), 1);
        CHECK.due("its failure", x.thrown(0), 22);
        CHECK.due("its hook", x.thrown(1), 0);
        CHECK.due("its call", x.thrown(2), calls + 1);
        CHECK.holds("as it was", x, 0, 0, 1, 2, 3);
        CHECK.due("filter", x.filter(0, 1), 0);
        CHECK.holds("at least 4", x, 0, 1, 3);
    }

    private static void promise15Change() {
        HookTrays x = withCards(Integer.MAX_VALUE, -10);
        x.tray(0, 0);
        x.tray(1, 0);
        x.tray(2, 0);
        CHECK.due("an empty one", x.change(0, 2), 0);
        put(x, 0, 1, 0, 1);
        CHECK.due("change", x.change(0, 2), 0);
        CHECK.holds("new ones", x, 0, 2, 3, 4);
        CHECK.thrown("change", x, 0, NONE, 0, 3);
        CHECK.due("weight and a", x.told(2, 0), 0);
        CHECK.due("wrapping", x.told(3, 0), -2147483639L);
        CHECK.due("its mark", x.told(3, 1), 7);
        CHECK.due("the old one is the same", x.told(1, 0), -10);
        CHECK.due("count(0)", x.count(0), 5);
        CHECK.due("sorted", x.change(1, 2), NO);
        CHECK.due("heap", x.change(2, 2), NO);
        CHECK.due("comparing", x.change(0, 0), NO);
        CHECK.due("keeping", x.change(0, 1), NO);
        CHECK.due("bad ahead of no", x.change(1, 5), BAD);
        CHECK.due("no tray", x.change(3, 2), BAD);
        for (int wrong : WRONG) {
            CHECK.due("tray " + wrong, x.change(wrong, 2), BAD);
            CHECK.due("hook " + wrong, x.change(0, wrong), BAD);
        }
    }

    private static void promise15ChangeThrows() {
        HookTrays x = withCards(1, 2, 3);
        x.tray(0, 0);
        put(x, 0, 0, 1, 2);
        x.plan(2, 3, 0, 99);
        CHECK.due("throws at 3", x.change(0, 2), 2);
        CHECK.holds("two are done", x, 0, 3, 4, 2);
        CHECK.thrown("throws at 3", x, 99, 2, 3, 2);
        CHECK.due("two new cards", x.count(0), 5);
        CHECK.due("the next card's number", x.card(0, 0), 5);
        x.plan(2, 1, 0, 1);
        CHECK.due("throws at 1", x.change(0, 2), 2);
        CHECK.thrown("throws at 1", x, 1, 2, 4, 0);
        CHECK.holds("none is done", x, 0, 3, 4, 2);
        x.plan(2, 2, 1, 0);
        CHECK.due("lies at 2", x.change(0, 2), 0);
        CHECK.holds("lies at 2", x, 0, 6, 7, 8);
        CHECK.due("with a", x.told(6, 0), 21);
        CHECK.due("less a", x.told(7, 0), 2);
        CHECK.due("with a", x.told(8, 0), 13);
    }

    private static void promise15ChangeFull() {
        HookTrays x = withCards();
        for (int i = 0; i < 117; i++) {
            x.card(i, 0);
        }
        x.tray(0, 0);
        x.tray(1, 0);
        put(x, 0, 0, 1, 2);
        x.plan(2, 1, 0, 1);
        x.plan(2, 5, 0, 2);
        CHECK.due("just 120", x.change(0, 2), 2);
        CHECK.due("just 120", x.change(0, 2), 0);
        CHECK.holds("just 120", x, 0, 117, 118, 119);
        CHECK.due("more, whatever would be thrown", x.change(0, 2), FULL);
        CHECK.due("no ahead of full", x.change(0, 0), NO);
        CHECK.due("no hook is asked", x.about(2, 1), 4);
        CHECK.due("the plan stands", x.count(3), 1);
        x.take(0, 0);
        x.take(0, 0);
        x.take(0, 0);
        CHECK.due("an empty one needs no room", x.change(0, 2), 0);
    }

    private static void promise16AllRows() {
        HookTrays x = withCards(1, 2, 3);
        x.tray(0, 0);
        x.tray(0, 1);
        put(x, 0, 2, 0);
        put(x, 1, 1, 1);
        CHECK.due("all", x.all(0, 1), 0);
        CHECK.holds("keeps none", x, 0);
        CHECK.holds("behind the others", x, 1, 1, 1, 2, 0);
        CHECK.due("of an empty one", x.all(0, 1), 0);
        CHECK.holds("the same", x, 1, 1, 1, 2, 0);
        CHECK.due("acts", x.count(4), 6);
    }

    private static void promise16AllSorted() {
        HookTrays x = withCards(1, 3, 5, 3, 4);
        x.tray(1, 0);
        x.tray(1, 0);
        put(x, 0, 3, 4);
        put(x, 1, 0, 1, 2);
        for (int n = 1; n <= 4; n++) {
            x.plan(0, n, 0, n);
            CHECK.due("throws at " + n, x.all(0, 1), 1);
            CHECK.thrown("throws at " + n, x, n, 0, x.about(0, 1), 0);
            CHECK.holds("as it was", x, 0, 3, 4);
            CHECK.holds("as it was", x, 1, 0, 1, 2);
        }
        CHECK.due("all", x.all(0, 1), 0);
        CHECK.due("calls", x.about(0, 2), 4);
        CHECK.holds("keeps none", x, 0);
        CHECK.holds("of like ones those that were there", x, 1, 0, 1, 3, 4, 2);
    }

    private static void promise16AllHeaps() {
        HookTrays x = withCards(1, 3, 5, 0, 4);
        x.tray(2, 0);
        x.tray(2, 0);
        put(x, 0, 3, 4);
        put(x, 1, 0, 1, 2);
        for (int n = 1; n <= 3; n++) {
            x.plan(0, n, 0, n);
            CHECK.due("throws at " + n, x.all(0, 1), 1);
            CHECK.holds("as it was", x, 0, 3, 4);
            CHECK.holds("as it was", x, 1, 0, 1, 2);
        }
        CHECK.due("all", x.all(0, 1), 0);
        CHECK.due("calls", x.about(0, 2), 3);
        CHECK.holds("keeps none", x, 0);
        CHECK.holds("put one by one", x, 1, 3, 0, 2, 1, 4);
    }

    private static void promise16AllRefused() {
        HookTrays x = withCards(1);
        x.tray(0, 0);
        x.tray(0, 0);
        x.tray(1, 0);
        x.tray(1, 3);
        x.tray(2, 0);
        x.tray(2, 0);
        CHECK.due("to itself", x.all(2, 2), BAD);
        CHECK.due("no tray", x.all(0, 6), BAD);
        CHECK.due("no tray", x.all(6, 0), BAD);
        CHECK.due("unlike kinds", x.all(0, 2), NO);
        CHECK.due("unlike kinds by one hook", x.all(2, 4), NO);
        CHECK.due("unlike hooks of one kind", x.all(2, 3), NO);
        for (int wrong : WRONG) {
            CHECK.due("from " + wrong, x.all(wrong, 0), BAD);
            CHECK.due("to " + wrong, x.all(0, wrong), BAD);
        }
        for (int i = 0; i < 20; i++) {
            put(x, 0, 0);
            put(x, 1, 0);
        }
        put(x, 1, 0);
        CHECK.due("41", x.all(0, 1), FULL);
        CHECK.due("41", x.all(1, 0), FULL);
        CHECK.due("from stays", x.whole(0, 1), 20);
        CHECK.due("no ahead of full", x.all(1, 2), NO);
        x.take(1, 0);
        CHECK.due("40", x.all(0, 1), 0);
        CHECK.due("40", x.whole(1, 1), 40);
        CHECK.due("none of 40", x.all(0, 1), 0);
        CHECK.due("acts", x.count(4), 44);
    }

    private static void promise17At() {
        HookTrays x = withCards(8, 9);
        x.tray(0, 0);
        CHECK.due("of an empty one", x.at(0, 0), NONE);
        put(x, 0, 1, 0);
        CHECK.due("at(0, 0)", x.at(0, 0), 1);
        CHECK.due("at(0, 1)", x.at(0, 1), 0);
        CHECK.due("at(0, 2)", x.at(0, 2), NONE);
        CHECK.due("at(0, 39)", x.at(0, 39), NONE);
        CHECK.due("at(0, -1)", x.at(0, -1), BAD);
        CHECK.due("at(1, 0)", x.at(1, 0), BAD);
        for (int wrong : WRONG) {
            CHECK.due("tray " + wrong, x.at(wrong, 0), BAD);
        }
        x.take(0, 1);
        CHECK.due("what went is there no more", x.at(0, 1), NONE);
    }

    private static void promise18Whole() {
        HookTrays x = withCards(1, 2, 3, 2);
        x.tray(0, 0);
        x.tray(1, 0);
        x.tray(2, 3);
        put(x, 0, 2, 1, 0);
        put(x, 1, 1, 3, 0);
        put(x, 2, 1, 3, 0);
        int[][] due = {{0, 3, NONE, 1}, {1, 3, 0, 1}, {2, 3, 3, 1}};
        for (int tray = 0; tray < 3; tray++) {
            for (int what = 0; what < 4; what++) {
                CHECK.due("whole(" + tray + ", " + what + ")", x.whole(tray, what), due[tray][what]);
            }
            CHECK.due("what 4", x.whole(tray, 4), BAD);
        }
        int calls = x.about(0, 1);
        x.plan(0, 1, 1, 0);
        CHECK.due("as truly told", x.whole(1, 3), 1);
        CHECK.due("no call", x.about(0, 1), calls);
        CHECK.due("the plan stands", x.count(3), 1);
        x.put(1, 2);
        CHECK.due("no more whole by a lie", x.whole(1, 3), 0);
        x.plan(3, 1, 1, 0);
        x.put(2, 0);
        CHECK.due("place 3 is ahead of place 1", x.whole(2, 3), 0);
        CHECK.due("tray 3", x.whole(3, 0), BAD);
        for (int wrong : WRONG) {
            CHECK.due("tray " + wrong, x.whole(wrong, 0), BAD);
            CHECK.due("what " + wrong, x.whole(0, wrong), BAD);
        }
        wholeByMarks();
        wholeByPlaces();
    }

    /** Cards of weights 1, 3, 2 in this order are a whole heap, and no whole sorted row. */
    private static void wholeByPlaces() {
        HookTrays x = withCards(1, 3, 2);
        x.tray(1, 0);
        x.tray(2, 0);
        x.put(0, 0);
        x.put(0, 1);
        x.plan(0, 1, 1, 0);
        x.put(0, 2);
        put(x, 1, 0, 1, 2);
        CHECK.due("the same", x.same(0, 1), 1);
        CHECK.due("sorted", x.whole(0, 3), 0);
        CHECK.due("heap", x.whole(1, 3), 1);
        CHECK.due("the like one is not ahead", x.put(1, 1), 0);
        CHECK.due("heap", x.whole(1, 3), 1);
    }

    private static void wholeByMarks() {
        HookTrays x = withCards(2, 1);
        x.tray(1, 4);
        x.put(0, 0);
        x.plan(4, 1, 1, 0);
        x.put(0, 1);
        CHECK.holds("by a lie", x, 0, 0, 1);
        CHECK.due("of like marks the lesser weight", x.whole(0, 3), 0);
        x.take(0, 0);
        CHECK.due("one alone", x.whole(0, 3), 1);
    }

    private static void promise19Same() {
        HookTrays x = withCards(1, 1, 2);
        x.tray(0, 0);
        x.tray(1, 0);
        CHECK.due("both empty", x.same(0, 1), 1);
        put(x, 0, 0, 2);
        put(x, 1, 0);
        CHECK.due("one more", x.same(0, 1), 0);
        CHECK.due("one less", x.same(1, 0), 0);
        put(x, 1, 2);
        CHECK.due("the same, in another kind", x.same(0, 1), 1);
        CHECK.due("to itself", x.same(1, 1), 1);
        x.take(0, 0);
        x.put(0, 0);
        CHECK.due("in another order", x.same(0, 1), 0);
        x.take(0, 0);
        x.take(1, 1);
        x.put(0, 1);
        x.take(0, 0);
        CHECK.due("a like card is not the same", x.same(0, 1), 0);
        CHECK.due("no tray", x.same(0, 2), BAD);
        CHECK.due("no tray", x.same(2, 0), BAD);
        for (int wrong : WRONG) {
            CHECK.due("tray " + wrong, x.same(wrong, 0), BAD);
            CHECK.due("other " + wrong, x.same(0, wrong), BAD);
        }
    }
}
