/** Promises 20 and 21: thrown, count. */
public final class HappenedTest {
    private static final int[] WRONG = {-1, Integer.MIN_VALUE, Integer.MAX_VALUE};
    private static final Check CHECK = new Check("HappenedTest");

    public static void main(String[] args) {
        promise20Thrown();
        promise20KeptTillTheNextAct();
        promise21Count();
        CHECK.finish();
    }

    /** Hooks 0 LIGHTER, 1 KEEPING 0, 2 ADDING 1; cards 0, 1; a row 0, a sorted one 1, both cards on each. */
    private static HookTrays made() {
        HookTrays x = new HookTrays();
        x.hook(0, 0);
        x.hook(3, 0);
        x.hook(4, 1);
        x.card(1, 1);
        x.card(2, 2);
        x.tray(0, 0);
        x.tray(1, 0);
        for (int tray = 0; tray <= 1; tray++) {
            x.put(tray, 0);
            x.put(tray, 1);
        }
        return x;
    }

    private static void promise20Thrown() {
        HookTrays x = made();
        CHECK.thrown("none was thrown", x, 0, HookTrays.NONE, 0, 0);
        x.plan(1, 2, 0, 33);
        x.filter(0, 1);
        CHECK.thrown("by keeping", x, 33, 1, 2, 1);
        x.change(0, 2);
        CHECK.thrown("none was thrown", x, 0, HookTrays.NONE, 0, 2);
        x.plan(0, 1, 0, 44);
        x.sort(0, 0);
        CHECK.thrown("by lighter", x, 44, 0, 2, 0);
        x.take(0, 0);
        CHECK.thrown("none was asked", x, 0, HookTrays.NONE, 0, 0);
        CHECK.due("thrown(4)", x.thrown(4), HookTrays.BAD);
        for (int wrong : WRONG) {
            CHECK.due("thrown(" + wrong + ")", x.thrown(wrong), HookTrays.BAD);
        }
    }

    private static void promise20KeptTillTheNextAct() {
        HookTrays x = made();
        x.plan(1, 2, 0, 33);
        x.filter(0, 1);
        x.put(0, 7);
        x.take(0, 2);
        x.first(5);
        x.find(0, 0);
        x.sort(1, 0);
        x.filter(0, 0);
        x.change(1, 2);
        x.all(0, 1);
        x.card(1, 1);
        x.hook(0, 0);
        x.tray(0, 0);
        x.plan(0, 1, 0, 1);
        x.clearPlans();
        x.whole(1, 3);
        x.same(0, 1);
        CHECK.thrown("none of these was an act", x, 33, 1, 2, 1);
        CHECK.due("calls of the latest act", x.about(1, 2), 2);
        CHECK.due("acts", x.count(4), 5);
        x.find(1, 0);
        CHECK.thrown("the next act", x, 0, HookTrays.NONE, 0, 0);
        CHECK.due("calls of the latest act", x.about(1, 2), 0);
    }

    private static void promise21Count() {
        HookTrays x = made();
        CHECK.due("cards", x.count(0), 2);
        CHECK.due("hooks", x.count(1), 3);
        CHECK.due("trays", x.count(2), 2);
        CHECK.due("plans", x.count(3), 0);
        CHECK.due("acts", x.count(4), 4);
        CHECK.due("thrown at", x.count(5), 0);
        int[] outcomes = {x.take(0, 0), x.put(0, 0), x.first(0), x.find(1, 0), x.sort(0, 0), x.filter(0, 1),
            x.change(0, 2), x.tray(0, 0), x.all(0, 2)};
        CHECK.due("the last was done", outcomes[8], 0);
        CHECK.due("eight acts more", x.count(4), 12);
        x.plan(0, 1, 0, 1);
        x.plan(0, 2, 0, 2);
        x.plan(1, 1, 0, 3);
        x.plan(2, 1, 0, 4);
        x.plan(2, 500, 0, 4);
        CHECK.due("plans", x.count(3), 5);
        CHECK.due("thrown at", x.find(1, 0), -11);
        CHECK.due("thrown at", x.put(1, 0), 1);
        CHECK.due("thrown at", x.filter(2, 1), 2);
        CHECK.due("thrown at", x.change(2, 2), 2);
        CHECK.due("plans that met their calls are gone", x.count(3), 1);
        CHECK.due("acts", x.count(4), 16);
        CHECK.due("thrown at", x.count(5), 4);
        CHECK.due("count(6)", x.count(6), HookTrays.BAD);
        for (int wrong : WRONG) {
            CHECK.due("count(" + wrong + ")", x.count(wrong), HookTrays.BAD);
        }
    }
}
