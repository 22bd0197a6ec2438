/** Promises 12 to 14: least, round, together. */
public final class WouldBeTest {
    private static final Checks CHECKS = new Checks("WouldBeTest");
    private static final int NONE = DarkOffice.NONE;

    public static void main(String[] args) {
        leastOfOneMinute();
        leastOfMoreMinutes();
        leastFromNow();
        leastRefused();
        roundThere();
        roundFirstByNumbers();
        roundLongest();
        roundFromNow();
        roundNone();
        roundRefused();
        roundTwentyTimes();
        together();
        nothingChanges();
        CHECKS.end();
    }

    private static void due(String call, long got, long want) {
        CHECKS.due(call, got, want);
    }

    private static void leastIs(String when, DarkOffice x, int minutes, int... wants) {
        int[] whats = {0, 10, 11, 12};
        for (int place = 0; place < whats.length; place++) {
            String call = when + ": least(" + minutes + ", " + whats[place] + ")";
            due(call, x.least(minutes, whats[place]), wants[place]);
        }
    }

    private static void leastOfOneMinute() {
        leastIs("nobody", Checks.office("l1,l1"), 1, 0, 0, NONE, NONE);
        leastIs("each his own", Checks.office("l1,l1,l1", 0, 2), 1, 2, 3, NONE, NONE);
        leastIs("two in one", Checks.office("l1,l1,l1", 1, 1), 1, 1, 1, NONE, NONE);
        leastIs("the middle one", Checks.office("w1,l1,w1", 0, 1, 2), 1, 1, 2, NONE, NONE);
        leastIs("beneath both", Checks.office("l1,h1", 1, 0), 1, 1, 2, NONE, NONE);
        leastIs("the last of four", Checks.office("h1,h1,h1,l1", 0, 1, 2, 3), 1, 1, 8, NONE, NONE);
        leastIs("all four", Checks.office("l1,l1,l1,l1", 0, 1, 2, 3), 1, 4, 15, NONE, NONE);
    }

    private static void leastOfMoreMinutes() {
        leastIs("nobody", Checks.office("l1,l1"), 3, 0, 0, 0, 0);
        leastIs("all in all", Checks.office("l1,l1,l1,l1", 0, 1, 2, 3), 3, 12, 15, 15, 15);
        leastIs("each minute", Checks.office("w1,l1,w1", 0, 1, 2), 3, 3, 2, 2, 2);
        // A wave in the second minute would do for the third as well, but 0 there is the first by numbers.
        leastIs("held by two", Checks.office("h2,h2", 0, 1), 3, 2, 1, 0, 1);
        leastIs("held by two", Checks.office("h2,h2", 0, 1), 2, 1, 1, 0, NONE);
        leastIs("held by three", Checks.office("h3,h3", 1, 0), 3, 1, 1, 0, 0);
        // Person 0 lights all for a minute, person 1 alone does so beneath lamp 1 only.
        leastIs("long and short", Checks.office("l1,h2", 0, 1), 2, 2, 1, 1, NONE);
    }

    private static void leastFromNow() {
        DarkOffice x = Checks.office("h2,h2", 0, 1);
        x.minute(1);
        leastIs("lit for two", x, 1, 0, 0, NONE, NONE);
        leastIs("lit for two", x, 3, 1, 0, 1, 0);
        x.minute(0);
        leastIs("lit for one", x, 1, 1, 1, NONE, NONE);
    }

    private static void leastRefused() {
        DarkOffice x = Checks.office("l1,l1", 0);
        int[] minutes = {0, 4, -1, Integer.MIN_VALUE, Integer.MAX_VALUE};
        for (int each : minutes) {
            due("least(" + each + ", 0)", x.least(each, 0), DarkOffice.OUTSIDE);
        }
        int[] whats = {1, 9, 13, -1, Integer.MIN_VALUE, Integer.MAX_VALUE};
        for (int each : whats) {
            due("least(1, " + each + ")", x.least(1, each), DarkOffice.OUTSIDE);
            due("least(1, " + each + ") of no office", new DarkOffice().least(1, each), DarkOffice.OUTSIDE);
        }
        due("least(3, 12) of no office", new DarkOffice().least(3, 12), DarkOffice.STATE);
    }

    /** Each want is what 0 and then 10, 11.. tell; those behind are none. */
    private static void roundIs(String when, String text, int section, int... wants) {
        DarkOffice x = Checks.office(text);
        for (int place = 0; place <= 7; place++) {
            int what = place == 0 ? 0 : 9 + place;
            int want = place < wants.length ? wants[place] : NONE;
            due(when + ": round(" + section + ", " + what + ")", x.round(section, what), want);
        }
        due(when + ": count(10)", x.count(10), 8);
    }

    private static void roundThere() {
        roundIs("two from 0", "l2,l2", 0, 2, 2, 0);
        roundIs("two from 1", "l2,l2", 1, 2, 0, 1);
        roundIs("at once from 0", "h1,h1", 0, 1, 1);
        roundIs("at once from 1", "h1,h1", 1, 1, 0);
        roundIs("over the wide one", "h9,l9,l9", 1, 2, 2, 0);
        roundIs("three in a row", "h9,l9,l9", 0, 3, 2, 2, 0);
    }

    private static void roundFirstByNumbers() {
        roundIs("down first", "l9,l9,l9", 1, 4, 0, 2, 2, 0);
        // Going up first, lamp 0 would be lit last: that is as short, but down comes first.
        roundIs("held just long enough", "l3,l9,l9", 1, 4, 0, 2, 2, 0);
        // Lamp 0 goes out before the guard is at 2, so he has to go up first.
        roundIs("up first", "l2,l9,l9", 1, 4, 2, 0, 0, 1);
    }

    private static void roundLongest() {
        roundIs("six", "l9,l9,l9,l9,l9,l9", 0, 6, 2, 2, 2, 2, 2, 0);
        roundIs("seven", "l9,l9,l9,l9,l9,l9", 1, 7, 0, 2, 2, 2, 2, 2, 0);
        roundIs("seven down", "l9,l9,l9,l9,l9,l9", 4, 7, 2, 0, 0, 0, 0, 0, 1);
        roundIs("eight are too many", "l9,l9,l9,l9,l9,l9", 2, NONE);
    }

    private static void roundFromNow() {
        DarkOffice x = Checks.office("l2,l2", 0);
        x.minute(1);
        due("lit: round(1, 0)", x.round(1, 0), 1);
        due("lit: round(1, 10)", x.round(1, 10), 0);
        x.minute(0);
        due("about to go out: round(1, 0)", x.round(1, 0), 2);
        due("about to go out: round(1, 11)", x.round(1, 11), 1);
    }

    private static void roundNone() {
        roundIs("none", "l1,l1", 0, NONE);
        roundIs("none", "l1,l1", 1, NONE);
        DarkOffice x = Checks.office("l1,h1");
        due("round(0, 0)", x.round(0, 0), 1);
        due("round(1, 0)", x.round(1, 0), 2);
    }

    private static void roundRefused() {
        DarkOffice x = Checks.office("l2,l2");
        int[] sections = {-1, 2, Integer.MIN_VALUE, Integer.MAX_VALUE};
        for (int each : sections) {
            due("round(" + each + ", 0)", x.round(each, 0), DarkOffice.UNKNOWN);
            due("round(" + each + ", 1)", x.round(each, 1), DarkOffice.UNKNOWN);
        }
        int[] whats = {1, 9, 17, -1, Integer.MIN_VALUE, Integer.MAX_VALUE};
        for (int each : whats) {
            due("round(0, " + each + ")", x.round(0, each), DarkOffice.OUTSIDE);
        }
        due("refusals do not count", x.count(10), 0);
    }

    private static void roundTwentyTimes() {
        DarkOffice x = Checks.office("l1,l1");
        x.image();
        for (int time = 1; time <= 10; time++) {
            due("round " + time, x.round(0, 0), NONE);
            due("count(10)", x.count(10), time);
        }
        x.restore();
        due("restore() leaves count(10)", x.count(10), 10);
        Checks.write(x, "l2,l2");
        x.office();
        due("office() leaves count(10)", x.count(10), 10);
        for (int time = 11; time <= 20; time++) {
            due("round " + time, x.round(0, 16), NONE);
        }
        due("round 21", x.round(0, 0), DarkOffice.STATE);
        due("round 21 of none", x.round(2, 0), DarkOffice.UNKNOWN);
        due("round 21 of none such", x.round(0, 1), DarkOffice.OUTSIDE);
        due("count(10)", x.count(10), 20);
        Checks.write(x, "l2,l2");
        x.office();
        due("round 21 elsewhere", x.round(0, 0), DarkOffice.STATE);
    }

    private static void togetherIs(String text, int section, int lamps) {
        DarkOffice x = Checks.office(text);
        due("together(0) of " + text, x.together(0), section);
        due("together(1) of " + text, x.together(1), lamps);
    }

    private static void together() {
        togetherIs("l1,l1", 0, 1);
        togetherIs("w1,l1,w1", 1, 3);
        togetherIs("l1,t1,l1,h1", 2, 3);
        togetherIs("l1,w1,l1,l1,w1,l1", 0, 2);
        togetherIs("l1,l1,l1,l1,t1,l1", 5, 2);
        togetherIs("h1,h1,h1,h1,h1,h1", 0, 6);
        DarkOffice x = Checks.office("l1,l1");
        due("together(2)", x.together(2), DarkOffice.OUTSIDE);
        due("together(-1)", x.together(-1), DarkOffice.OUTSIDE);
        due("together(1) of no office", new DarkOffice().together(1), DarkOffice.STATE);
    }

    private static void nothingChanges() {
        DarkOffice x = Checks.office("l2,w3,t2", 0, 1, 2);
        x.minute(5);
        x.round(0, 0);
        long before = x.digest();
        x.least(3, 0);
        x.least(2, 11);
        x.together(0);
        due("digest() behind questions", x.digest(), before);
    }
}
