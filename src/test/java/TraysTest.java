/** Promises 8 to 13: tray, put, take, first, find, sort. */
public final class TraysTest {
    private static final int[] WRONG = {-1, Integer.MIN_VALUE, Integer.MAX_VALUE};
    private static final int BAD = HookTrays.BAD, NO = HookTrays.NO, FULL = HookTrays.FULL;
    private static final Check CHECK = new Check("TraysTest");

    public static void main(String[] args) {
        promise8Tray();
        promise9PutOnRow();
        promise9PutOnSorted();
        promise9PutOnHeap();
        promise9Full();
        promise10Take();
        promise10TakeFromHeap();
        promise10DownAmongLikeOnes();
        promise10DownAsFarAsItCan();
        promise11First();
        promise12Find();
        promise13Sort();
        promise13SortThrows();
        CHECK.finish();
    }

    /** Hooks 0 LIGHTER, 1 HEAVIER, 2 MARKED, 3 KEEPING 0, 4 ADDING 1; a card of each weight, mark 0. */
    private static HookTrays withCards(int... weights) {
        HookTrays x = new HookTrays();
        for (int kind = 0; kind <= 4; kind++) {
            x.hook(kind, kind == 4 ? 1 : 0);
        }
        for (int weight : weights) {
            x.card(weight, 0);
        }
        return x;
    }

    private static void putAll(HookTrays x, int tray, int cards) {
        for (int card = 0; card < cards; card++) {
            CHECK.due("put(" + tray + ", " + card + ")", x.put(tray, card), 0);
        }
    }

    private static void promise8Tray() {
        HookTrays x = withCards();
        CHECK.due("kind 3", x.tray(3, 0), BAD);
        CHECK.due("no such hook", x.tray(1, 5), BAD);
        CHECK.due("keeping", x.tray(1, 3), NO);
        CHECK.due("adding", x.tray(2, 4), NO);
        for (int wrong : WRONG) {
            CHECK.due("kind " + wrong, x.tray(wrong, 0), BAD);
            CHECK.due("hook " + wrong, x.tray(2, wrong), BAD);
        }
        CHECK.due("a row looks at no hook", x.tray(0, -7), 0);
        CHECK.due("a row by keeping", x.tray(0, 3), 1);
        CHECK.due("sorted", x.tray(1, 1), 2);
        CHECK.due("heap", x.tray(2, 2), 3);
        CHECK.due("sorted", x.tray(1, 0), 4);
        CHECK.due("heap", x.tray(2, 0), 5);
        CHECK.due("a seventh", x.tray(0, 0), FULL);
        CHECK.due("bad ahead of full", x.tray(1, 5), BAD);
        CHECK.due("no ahead of full", x.tray(1, 3), NO);
        CHECK.due("count(2)", x.count(2), 6);
        CHECK.due("no act", x.count(4), 0);
    }

    private static void promise9PutOnRow() {
        HookTrays x = withCards(3, 1, 2);
        x.tray(0, 0);
        CHECK.due("no tray", x.put(1, 0), BAD);
        CHECK.due("no card", x.put(0, 3), BAD);
        for (int wrong : WRONG) {
            CHECK.due("tray " + wrong, x.put(wrong, 0), BAD);
            CHECK.due("card " + wrong, x.put(0, wrong), BAD);
        }
        CHECK.due("refused calls are no acts", x.count(4), 0);
        putAll(x, 0, 3);
        x.put(0, 1);
        CHECK.holds("behind the others", x, 0, 0, 1, 2, 1);
        CHECK.due("four acts", x.count(4), 4);
    }

    private static void promise9PutOnSorted() {
        HookTrays x = withCards(5, 3, 9, 3, 4);
        x.tray(1, 0);
        putAll(x, 0, 5);
        CHECK.holds("lighter", x, 0, 1, 3, 4, 0, 2);
        CHECK.due("calls", x.about(0, 1), 6);
        x.plan(0, 2, 0, 7);
        CHECK.due("throws at the second", x.put(0, 0), 1);
        CHECK.thrown("throws at the second", x, 7, 0, 8, 0);
        CHECK.holds("as it was", x, 0, 1, 3, 4, 0, 2);
        x.tray(1, 1);
        putAll(x, 1, 5);
        CHECK.holds("heavier", x, 1, 2, 0, 4, 1, 3);
        HookTrays y = withCards();
        y.card(1, 5);
        y.card(9, 2);
        y.card(4, 2);
        y.card(4, 2);
        y.tray(1, 2);
        putAll(y, 0, 4);
        CHECK.holds("marked", y, 0, 2, 3, 1, 0);
    }

    private static void promise9PutOnHeap() {
        HookTrays x = withCards(5, 3, 9, 1, 3);
        x.tray(2, 0);
        putAll(x, 0, 5);
        CHECK.holds("heap", x, 0, 3, 1, 2, 0, 4);
        CHECK.due("calls", x.about(0, 1), 5);
        x.card(0, 0);
        x.plan(0, 2, 0, 9);
        CHECK.due("throws when it moved once", x.put(0, 5), 1);
        CHECK.thrown("throws when it moved once", x, 9, 0, 7, 0);
        CHECK.holds("as it was", x, 0, 3, 1, 2, 0, 4);
        CHECK.due("none throws", x.put(0, 5), 0);
        CHECK.holds("up twice", x, 0, 5, 1, 3, 0, 4, 2);
    }

    private static void promise9Full() {
        for (int kind = 0; kind <= 2; kind++) {
            HookTrays x = withCards(1);
            x.tray(kind, 0);
            for (int i = 0; i < 40; i++) {
                CHECK.due("put " + i, x.put(0, 0), 0);
            }
            int calls = x.about(0, 1);
            CHECK.due("a 41st", x.put(0, 0), FULL);
            CHECK.due("bad ahead of full", x.put(0, 1), BAD);
            CHECK.due("40 are held", x.whole(0, 1), 40);
            CHECK.due("the last", x.at(0, 39), 0);
            CHECK.due("no hook is asked", x.about(0, 1), calls);
            CHECK.due("40 acts", x.count(4), 40);
        }
    }

    private static void promise10Take() {
        HookTrays x = withCards(1, 2, 3);
        x.tray(0, 0);
        CHECK.due("of an empty one", x.take(0, 0), BAD);
        putAll(x, 0, 3);
        CHECK.due("no tray", x.take(1, 0), BAD);
        CHECK.due("no place", x.take(0, 3), BAD);
        for (int wrong : WRONG) {
            CHECK.due("tray " + wrong, x.take(wrong, 0), BAD);
            CHECK.due("place " + wrong, x.take(0, wrong), BAD);
        }
        CHECK.due("take", x.take(0, 1), 0);
        CHECK.holds("without 1", x, 0, 0, 2);
        x.tray(1, 1);
        putAll(x, 1, 3);
        x.plan(1, 1, 0, 1);
        CHECK.due("take of a sorted one asks none", x.take(1, 0), 0);
        CHECK.holds("without 2", x, 1, 1, 0);
        CHECK.due("the last", x.take(1, 1), 0);
        CHECK.holds("without 0", x, 1, 1);
        CHECK.due("the plan stands", x.count(3), 1);
    }

    private static void promise10TakeFromHeap() {
        HookTrays x = withCards(1, 10, 2, 11, 12, 3, 4);
        x.tray(2, 0);
        putAll(x, 0, 7);
        CHECK.holds("heap", x, 0, 0, 1, 2, 3, 4, 5, 6);
        int calls = x.about(0, 1);
        CHECK.due("the last", x.take(0, 6), 0);
        CHECK.due("none is asked", x.about(0, 1), calls);
        x.put(0, 6);
        CHECK.due("6 goes up", x.take(0, 3), 0);
        CHECK.holds("6 goes up", x, 0, 0, 6, 2, 1, 4, 5);
        CHECK.due("up: two calls, and no down", x.about(0, 2), 2);
        x.plan(0, 2, 0, 4);
        CHECK.due("throws going down", x.take(0, 0), 1);
        CHECK.thrown("throws going down", x, 4, 0, x.about(0, 1), 0);
        CHECK.holds("as it was", x, 0, 0, 6, 2, 1, 4, 5);
        x.plan(0, 1, 0, 4);
        CHECK.due("throws going up", x.take(0, 2), 1);
        CHECK.holds("as it was", x, 0, 0, 6, 2, 1, 4, 5);
        CHECK.due("5 goes down", x.take(0, 0), 0);
        CHECK.holds("5 goes down", x, 0, 2, 6, 5, 1, 4);
        CHECK.due("down: two calls", x.about(0, 2), 2);
        CHECK.due("neither", x.take(0, 2), 0);
        CHECK.holds("neither", x, 0, 2, 6, 4, 1);
        CHECK.due("one call up, none down", x.about(0, 2), 1);
    }

    private static void promise10DownAmongLikeOnes() {
        HookTrays x = withCards(1, 2, 2, 3, 3, 2, 2, 9, 9, 2);
        x.tray(2, 0);
        putAll(x, 0, 9);
        CHECK.holds("heap", x, 0, 0, 1, 2, 3, 4, 5, 6, 7, 8);
        CHECK.due("take", x.take(0, 0), 0);
        CHECK.holds("of like ones the left, three down", x, 0, 1, 3, 2, 8, 4, 5, 6, 7);
        CHECK.due("two calls a step, one where it is alone", x.about(0, 2), 5);
        x.take(0, 7);
        x.take(0, 6);
        CHECK.due("a like one does not change places", x.take(0, 0), 0);
        CHECK.holds("a like one does not change places", x, 0, 5, 3, 2, 8, 4);
        CHECK.due("two calls", x.about(0, 2), 2);
    }

    private static void promise10DownAsFarAsItCan() {
        int[] weights = new int[40];
        for (int i = 0; i < 40; i++) {
            weights[i] = i;
        }
        HookTrays x = withCards(weights);
        x.tray(2, 0);
        putAll(x, 0, 40);
        for (int i = 0; i < 40; i++) {
            CHECK.due("first " + i, x.first(0), i);
            CHECK.due("whole", x.whole(0, 3), 1);
        }
    }

    private static void promise11First() {
        HookTrays x = withCards(4, 2, 6);
        x.tray(0, 0);
        x.tray(2, 0);
        CHECK.due("of an empty one", x.first(0), BAD);
        CHECK.due("no tray", x.first(2), BAD);
        for (int wrong : WRONG) {
            CHECK.due("tray " + wrong, x.first(wrong), BAD);
        }
        putAll(x, 0, 3);
        putAll(x, 1, 3);
        CHECK.due("of a row", x.first(0), 0);
        CHECK.holds("of a row", x, 0, 1, 2);
        x.plan(0, 1, 0, 3);
        CHECK.due("throws", x.first(1), -11);
        CHECK.thrown("throws", x, 3, 0, 3, 0);
        CHECK.holds("as it was", x, 1, 1, 0, 2);
        CHECK.due("of a heap", x.first(1), 1);
        CHECK.due("of a heap", x.first(1), 0);
        CHECK.due("of a heap", x.first(1), 2);
        CHECK.due("acts", x.count(4), 11);
        CHECK.due("of an empty one", x.first(1), BAD);
        CHECK.due("refused", x.count(4), 11);
    }

    private static void promise12Find() {
        HookTrays x = withCards(1, 3, 3, 5, 2);
        x.tray(1, 0);
        x.tray(0, 0);
        x.tray(2, 0);
        CHECK.due("in an empty one", x.find(0, 0), 0);
        putAll(x, 0, 4);
        CHECK.due("behind like ones", x.find(0, 1), 3);
        CHECK.due("one that is not there", x.find(0, 4), 1);
        CHECK.due("behind the last", x.find(0, 3), 4);
        CHECK.due("calls", x.about(0, 2), 2);
        CHECK.holds("nothing is changed", x, 0, 0, 1, 2, 3);
        x.plan(0, 1, 1, 0);
        CHECK.due("by a lie", x.find(0, 0), 3);
        x.plan(0, 2, 0, 8);
        CHECK.due("throws", x.find(0, 0), -11);
        CHECK.thrown("throws", x, 8, 0, x.about(0, 1), 0);
        CHECK.due("thrown at", x.count(5), 1);
        int acts = x.count(4);
        CHECK.due("a row", x.find(1, 0), NO);
        CHECK.due("a heap", x.find(2, 0), NO);
        CHECK.due("bad ahead of no", x.find(1, 5), BAD);
        CHECK.due("no tray", x.find(3, 0), BAD);
        for (int wrong : WRONG) {
            CHECK.due("tray " + wrong, x.find(wrong, 0), BAD);
            CHECK.due("card " + wrong, x.find(0, wrong), BAD);
        }
        CHECK.due("refused", x.count(4), acts);
    }

    private static void promise13Sort() {
        HookTrays x = withCards(5, 3, 4, 3, 1);
        x.tray(0, 0);
        x.tray(1, 0);
        x.tray(2, 0);
        CHECK.due("an empty one", x.sort(0, 0), 0);
        putAll(x, 0, 5);
        CHECK.due("lighter", x.sort(0, 0), 0);
        CHECK.holds("lighter", x, 0, 4, 1, 3, 2, 0);
        CHECK.due("2 by ones, 3 by twos, 1 by fours", x.about(0, 2), 6);
        CHECK.due("heavier", x.sort(0, 1), 0);
        CHECK.holds("heavier", x, 0, 0, 2, 1, 3, 4);
        CHECK.due("marked", x.sort(0, 2), 0);
        CHECK.holds("by weight, as marks are like", x, 0, 4, 1, 3, 2, 0);
        CHECK.due("sorted", x.sort(1, 0), NO);
        CHECK.due("heap", x.sort(2, 0), NO);
        CHECK.due("keeping", x.sort(0, 3), NO);
        CHECK.due("adding", x.sort(0, 4), NO);
        CHECK.due("bad ahead of no", x.sort(1, 5), BAD);
        CHECK.due("no tray", x.sort(3, 0), BAD);
        for (int wrong : WRONG) {
            CHECK.due("tray " + wrong, x.sort(wrong, 0), BAD);
            CHECK.due("hook " + wrong, x.sort(0, wrong), BAD);
        }
    }

    private static void promise13SortThrows() {
        HookTrays x = withCards(5, 3, 4, 3, 1);
        x.tray(0, 0);
        putAll(x, 0, 5);
        for (int n = 1; n <= 6; n++) {
            x.plan(0, n, 0, 10 + n);
            int calls = x.about(0, 1);
            CHECK.due("throws at " + n, x.sort(0, 0), 1);
            CHECK.thrown("throws at " + n, x, 10 + n, 0, calls + n, 0);
            CHECK.holds("as it was", x, 0, 0, 1, 2, 3, 4);
        }
        x.plan(0, 6, 1, 0);
        CHECK.due("lies at 6", x.sort(0, 0), 0);
        CHECK.holds("1 comes by the lie, then 4 truly", x, 0, 1, 4, 3, 2, 0);
    }
}
