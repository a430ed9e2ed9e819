/** Promises 1 to 7: a new object, card, told, hook, plan, clearPlans, about. */
public final class CardsHooksTest {
    private static final int[] WRONG = {-1, Integer.MIN_VALUE, Integer.MAX_VALUE};
    private static final Check CHECK = new Check("CardsHooksTest");

    public static void main(String[] args) {
        promise1NewObject();
        promise2Card();
        promise3Told();
        promise4Hook();
        promise5Plan();
        promise5PlansOfManyHooks();
        promise5PlansMetInTurn();
        promise5WhatPlansDo();
        promise6ClearPlans();
        promise7About();
        CHECK.finish();
    }

    private static void promise1NewObject() {
        HookTrays x = new HookTrays();
        for (int what = 0; what <= 5; what++) {
            CHECK.due("new: count(" + what + ")", x.count(what), 0);
        }
        CHECK.thrown("new", x, 0, HookTrays.NONE, 0, 0);
        CHECK.due("new: told(0, 0)", x.told(0, 0), -10000000000L);
        CHECK.due("new: about(0, 0)", x.about(0, 0), HookTrays.BAD);
        CHECK.due("new: plan", x.plan(0, 1, 0, 1), HookTrays.BAD);
        CHECK.due("new: whole(0, 0)", x.whole(0, 0), HookTrays.BAD);
        CHECK.due("new: clearPlans", x.clearPlans(), 0);
        x.card(1, 1);
        x.hook(0, 0);
        x.tray(0, 0);
        CHECK.due("another new one: count(0)", new HookTrays().count(0), 0);
    }

    private static void promise2Card() {
        HookTrays x = new HookTrays();
        CHECK.due("card mark -1", x.card(1, -1), HookTrays.BAD);
        CHECK.due("card mark 100", x.card(1, 100), HookTrays.BAD);
        for (int i = 0; i < 120; i++) {
            CHECK.due("card " + i, x.card(i, i % 100), i);
        }
        CHECK.due("card 120", x.card(1, 1), HookTrays.FULL);
        CHECK.due("bad ahead of full", x.card(1, 100), HookTrays.BAD);
        CHECK.due("count(0)", x.count(0), 120);
        CHECK.due("the last", x.told(119, 0), 119);
        CHECK.due("no act", x.count(4), 0);
    }

    private static void promise3Told() {
        HookTrays x = new HookTrays();
        x.card(Integer.MIN_VALUE, 0);
        x.card(Integer.MAX_VALUE, 99);
        CHECK.due("told(0, 0)", x.told(0, 0), -2147483648L);
        CHECK.due("told(0, 1)", x.told(0, 1), 0);
        CHECK.due("told(1, 0)", x.told(1, 0), 2147483647L);
        CHECK.due("told(1, 1)", x.told(1, 1), 99);
        CHECK.due("told(2, 0)", x.told(2, 0), -10000000000L);
        CHECK.due("told(0, 2)", x.told(0, 2), -10000000000L);
        for (int wrong : WRONG) {
            CHECK.due("told of card " + wrong, x.told(wrong, 0), -10000000000L);
            CHECK.due("told what " + wrong, x.told(0, wrong), -10000000000L);
        }
    }

    private static void promise4Hook() {
        HookTrays x = new HookTrays();
        CHECK.due("hook kind 5", x.hook(5, 0), HookTrays.BAD);
        for (int wrong : WRONG) {
            CHECK.due("hook kind " + wrong, x.hook(wrong, 0), HookTrays.BAD);
        }
        for (int i = 0; i < 8; i++) {
            CHECK.due("hook " + i, x.hook(i % 5, 10 * i), i);
        }
        CHECK.due("hook 8", x.hook(0, 0), HookTrays.FULL);
        CHECK.due("bad ahead of full", x.hook(5, 0), HookTrays.BAD);
        CHECK.due("count(1)", x.count(1), 8);
        for (int i = 0; i < 8; i++) {
            CHECK.due("kind of " + i, x.about(i, 0), i % 5);
        }
    }

    private static void promise5Plan() {
        HookTrays x = new HookTrays();
        x.hook(0, 0);
        CHECK.due("no hook", x.plan(1, 1, 0, 1), HookTrays.BAD);
        CHECK.due("n 0", x.plan(0, 0, 0, 1), HookTrays.BAD);
        CHECK.due("n 1001", x.plan(0, 1001, 0, 1), HookTrays.BAD);
        CHECK.due("what 3", x.plan(0, 1, 3, 1), HookTrays.BAD);
        CHECK.due("f 0", x.plan(0, 1, 0, 0), HookTrays.BAD);
        CHECK.due("f 100", x.plan(0, 1, 0, 100), HookTrays.BAD);
        for (int wrong : WRONG) {
            CHECK.due("hook " + wrong, x.plan(wrong, 1, 0, 1), HookTrays.BAD);
            CHECK.due("n " + wrong, x.plan(0, wrong, 0, 1), HookTrays.BAD);
            CHECK.due("what " + wrong, x.plan(0, 1, wrong, 1), HookTrays.BAD);
            CHECK.due("f " + wrong, x.plan(0, 1, 0, wrong), HookTrays.BAD);
        }
        CHECK.due("nothing stands", x.count(3), 0);
        CHECK.due("f 1", x.plan(0, 1, 0, 1), 1);
        CHECK.due("f 99", x.plan(0, 2, 0, 99), 2);
        CHECK.due("n 1000", x.plan(0, 1000, 0, 99), 3);
        CHECK.due("lies, whatever f", x.plan(0, 3, 1, -5), 4);
        CHECK.due("calls back, whatever f", x.plan(0, 4, 2, 1000), 5);
        CHECK.due("for the same call", x.plan(0, 1, 0, 7), 5);
        for (int n = 5; n <= 11; n++) {
            CHECK.due("plan " + n, x.plan(0, n, 0, n), n + 1);
        }
        CHECK.due("a 13th", x.plan(0, 12, 0, 1), HookTrays.FULL);
        CHECK.due("bad ahead of full", x.plan(0, 12, 0, 100), HookTrays.BAD);
        CHECK.due("in the place of one of 12", x.plan(0, 11, 0, 55), 12);
        CHECK.due("12 stand", x.count(3), 12);
    }

    private static void promise5PlansOfManyHooks() {
        HookTrays x = new HookTrays();
        x.hook(0, 0);
        x.hook(3, 0);
        x.card(1, 1);
        x.tray(0, 0);
        x.put(0, 0);
        CHECK.due("of hook 0", x.plan(0, 1, 0, 5), 1);
        CHECK.due("of hook 1", x.plan(1, 1, 0, 6), 2);
        CHECK.due("of hook 1 too", x.plan(1, 2, 0, 7), 3);
        CHECK.due("filter", x.filter(0, 1), 2);
        CHECK.thrown("the plan of the hook that is asked", x, 6, 1, 1, 0);
        CHECK.due("call 2 has a plan already", x.plan(1, 1, 0, 8), 2);
        CHECK.due("filter", x.filter(0, 1), 2);
        CHECK.thrown("the later plan", x, 8, 1, 2, 0);
        CHECK.due("filter", x.filter(0, 1), 0);
        CHECK.due("that of hook 0 stands", x.about(0, 4), 1);
        CHECK.due("that of hook 0 stands", x.count(3), 1);
    }

    /** The others stand as they were, whichever plan is gone. */
    private static void promise5PlansMetInTurn() {
        HookTrays x = new HookTrays();
        x.hook(3, 0);
        x.card(1, 1);
        x.tray(0, 0);
        x.put(0, 0);
        for (int n = 1; n <= 12; n++) {
            CHECK.due("plan for " + n, x.plan(0, n, 0, 20 + n), n);
        }
        for (int n = 1; n <= 12; n++) {
            CHECK.due("filter " + n, x.filter(0, 0), 2);
            CHECK.thrown("filter " + n, x, 20 + n, 0, n, 0);
            CHECK.due("plans", x.about(0, 4), 12 - n);
        }
        CHECK.due("no plan more", x.filter(0, 0), 0);
    }

    private static void promise5WhatPlansDo() {
        HookTrays x = new HookTrays();
        x.hook(3, 5);
        x.hook(4, Integer.MIN_VALUE);
        x.card(5, 3);
        x.card(4, 4);
        x.tray(0, 0);
        x.put(0, 0);
        x.put(0, 1);
        x.plan(0, 1, 2, 0);
        CHECK.due("keeping calls back", x.filter(0, 0), 0);
        CHECK.holds("goes on as without", x, 0, 0);
        CHECK.due("a misuse", x.about(0, 3), 1);
        CHECK.due("the put that was refused is no act", x.count(4), 3);
        x.put(0, 1);
        x.plan(0, 1, 1, 0);
        x.plan(0, 2, 1, 0);
        CHECK.due("keeping lies", x.filter(0, 0), 0);
        CHECK.holds("0 for 1 and 1 for 0", x, 0, 1);
        x.plan(1, 1, 1, 0);
        CHECK.due("adding lies", x.change(0, 1), 0);
        CHECK.due("less a, wrapping", x.told(2, 0), -2147483644L);
        x.plan(1, 1, 2, 0);
        CHECK.due("adding calls back", x.change(0, 1), 0);
        CHECK.due("with a, wrapping", x.told(3, 0), 4);
        CHECK.due("the mark stays", x.told(3, 1), 4);
        CHECK.due("a misuse of hook 1", x.about(1, 3), 1);
        CHECK.due("that of hook 0 stays", x.about(0, 3), 1);
        CHECK.due("a misuse is no failure", x.count(5), 0);
        CHECK.thrown("a misuse is no failure", x, 0, HookTrays.NONE, 0, 1);
        like();
    }

    /** The other sign of 0 is 0: like cards stay like when a hook lies. */
    private static void like() {
        HookTrays x = new HookTrays();
        x.hook(0, 0);
        x.card(5, 0);
        x.card(5, 1);
        x.tray(1, 0);
        x.put(0, 0);
        x.plan(0, 1, 1, 0);
        x.put(0, 1);
        CHECK.holds("a lie about like ones", x, 0, 0, 1);
    }

    private static void promise6ClearPlans() {
        HookTrays x = new HookTrays();
        x.hook(3, 0);
        x.hook(3, 0);
        x.card(1, 1);
        x.tray(0, 0);
        x.put(0, 0);
        x.plan(0, 1, 0, 1);
        x.plan(0, 2, 0, 1);
        x.plan(1, 1, 0, 1);
        CHECK.due("clearPlans", x.clearPlans(), 3);
        CHECK.due("count(3)", x.count(3), 0);
        CHECK.due("about(0, 4)", x.about(0, 4), 0);
        CHECK.due("none is met", x.filter(0, 0), 0);
        CHECK.due("none is met", x.filter(0, 1), 0);
        CHECK.due("clearPlans again", x.clearPlans(), 0);
        CHECK.due("a plan after that", x.plan(0, 1, 0, 1), 1);
    }

    private static void promise7About() {
        HookTrays x = new HookTrays();
        x.hook(0, 0);
        x.hook(3, 0);
        for (int i = 0; i < 4; i++) {
            x.card(i, 0);
        }
        x.tray(1, 0);
        for (int i = 0; i < 4; i++) {
            x.put(0, i);
        }
        x.plan(0, 1, 2, 0);
        x.plan(0, 1000, 2, 0);
        CHECK.due("kind", x.about(1, 0), 3);
        CHECK.due("calls: 0, 1, 1, 2", x.about(0, 1), 4);
        CHECK.due("calls of the latest act", x.about(0, 2), 2);
        CHECK.due("plans", x.about(0, 4), 2);
        CHECK.due("plans of the other", x.about(1, 4), 0);
        CHECK.due("refused", x.put(0, 99), HookTrays.BAD);
        CHECK.due("a refused call is no act", x.about(0, 2), 2);
        CHECK.due("filter", x.filter(0, 1), 0);
        CHECK.due("the latest act did not ask it", x.about(0, 2), 0);
        CHECK.due("the latest act asked this", x.about(1, 2), 4);
        CHECK.due("misuses", x.about(0, 3), 0);
        x.find(0, 0);
        CHECK.due("misuses", x.about(0, 3), 1);
        CHECK.due("plans", x.about(0, 4), 1);
        CHECK.due("a late hook", x.hook(2, 0), 2);
        for (int what = 1; what <= 4; what++) {
            CHECK.due("about(2, " + what + ")", x.about(2, what), 0);
        }
        CHECK.due("what 5", x.about(0, 5), HookTrays.BAD);
        CHECK.due("hook 3", x.about(3, 0), HookTrays.BAD);
        for (int wrong : WRONG) {
            CHECK.due("what " + wrong, x.about(0, wrong), HookTrays.BAD);
            CHECK.due("hook " + wrong, x.about(wrong, 0), HookTrays.BAD);
        }
    }
}
