/** Compares answers with those that are due, and ends a test with exit code 1 if one was wrong. */
final class Check {
    private String test;
    private int made = 0;
    private int madeBefore = 0;
    private int wrong = 0;

    Check(String test) {
        this.test = test;
    }

    /** What comes next is told under this name. */
    void begin(String name) {
        test = name;
        madeBefore = made;
    }

    /** A test that compared nothing is wrong. */
    void end() {
        if (made == madeBefore) {
            fail("compared nothing");
        }
    }

    void due(String call, long got, long want) {
        made++;
        if (got != want) {
            fail(call + " answered " + got + ", due is " + want);
        }
    }

    /** Two texts of the same lines. */
    void like(String what, String got, String want) {
        made++;
        if (!got.equals(want)) {
            fail(what + " is another:\n" + got + "due is:\n" + want);
        }
    }

    void fail(String why) {
        wrong++;
        System.out.println(test + ": " + why);
    }

    /** The tray holds just these cards, in this order. */
    void holds(String when, HookTrays x, int tray, int... cards) {
        due(when + ": whole(" + tray + ", 1)", x.whole(tray, 1), cards.length);
        for (int place = 0; place < cards.length; place++) {
            due(when + ": at(" + tray + ", " + place + ")", x.at(tray, place), cards[place]);
        }
    }

    /** All that thrown() tells. */
    void thrown(String when, HookTrays x, int failure, int hook, int call, int handled) {
        due(when + ": thrown(0)", x.thrown(0), failure);
        due(when + ": thrown(1)", x.thrown(1), hook);
        due(when + ": thrown(2)", x.thrown(2), call);
        due(when + ": thrown(3)", x.thrown(3), handled);
    }

    boolean isRight() {
        return wrong == 0;
    }

    void finish() {
        System.out.println(made + " answers, " + wrong + " wrong");
        if (wrong != 0 || made == 0) {
            System.exit(1);
        }
    }
}
