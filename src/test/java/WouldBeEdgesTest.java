/** What would be and promises 12 to 14: each sentence that names a boundary case, in a test of its own. */
public final class WouldBeEdgesTest {
    private static final Checks CHECKS = new Checks("WouldBeEdgesTest");
    private static final int NONE = DarkOffice.NONE;
    private static final int UNKNOWN = DarkOffice.UNKNOWN;
    private static final int OUTSIDE = DarkOffice.OUTSIDE;
    private static final int STATE = DarkOffice.STATE;
    private static final int[] FAR = {Integer.MIN_VALUE, -256, -1, 256, 1 << 16, Integer.MAX_VALUE};

    public static void main(String[] args) {
        leastMinutes();
        leastFewest();
        leastInAnyMinute();
        leastFirstByNumbers();
        leastSoManieth();
        leastRefused();
        roundMinutes();
        roundWavesWhereHeIs();
        roundAtItsEnd();
        roundNotBeyondTheEnds();
        roundNobodyElse();
        roundFirstByNumbers();
        roundBehindTheLast();
        roundSoManieth();
        roundNone();
        roundRefused();
        roundTwentyTimes();
        togetherLeast();
        togetherHowMany();
        togetherRefused();
        CHECKS.end();
    }

    private static void says(String words) {
        CHECKS.says(words);
    }

    private static void due(String call, long got, long want) {
        CHECKS.due(call, got, want);
    }

    private static void leastIs(String when, DarkOffice x, int minutes, int... wants) {
        int[] whats = {0, 10, 11, 12};
        for (int place = 0; place < whats.length; place++) {
            String call = when + ": least(" + minutes + ", " + whats[place] + ")";
            due(call, x.least(minutes, whats[place]), place < wants.length ? wants[place] : NONE);
        }
    }

    /** Each want is what 0 and then 10, 11.. tell; those behind are none. */
    private static void roundIs(String when, DarkOffice x, int section, int... wants) {
        for (int place = 0; place <= 7; place++) {
            int what = place == 0 ? 0 : 9 + place;
            String call = when + ": round(" + section + ", " + what + ")";
            due(call, x.round(section, what), place < wants.length ? wants[place] : NONE);
        }
    }

    private static void leastMinutes() {
        says("LEAST WAVING for so many MINUTES (1 to 3) from now");
        DarkOffice x = Checks.office("l1,l1", 0);
        due("least(0, 0)", x.least(0, 0), OUTSIDE);
        leastIs("one", x, 1, 1, 1);
        leastIs("two", x, 2, 2, 1, 1);
        leastIs("three", x, 3, 3, 1, 1, 1);
        due("least(4, 0)", x.least(4, 0), OUTSIDE);
        DarkOffice lit = Checks.office("l4,l1", 0);
        lit.minute(1);
        for (int minutes = 1; minutes <= 3; minutes++) {
            due("lit for four: least(" + minutes + ", 0)", lit.least(minutes, 0), 0);
        }
        lit.minute(0);
        leastIs("lit for three", lit, 3, 1, 0, 0, 1);
        due("lit for three: least(2, 0)", lit.least(2, 0), 0);
        lit.minute(0);
        lit.minute(0);
        leastIs("lit for one", lit, 1, 1, 1);
    }

    private static void leastFewest() {
        says("by how few WAVES of all together");
        leastIs("nobody", Checks.office("l1,l1"), 1, 0, 0);
        leastIs("nobody", Checks.office("l1,l1"), 3, 0, 0, 0, 0);
        leastIs("one for all", Checks.office("h9,h9,h9,h9", 0, 1, 2, 3), 3, 1, 1, 0, 0);
        leastIs("all in all", Checks.office("l1,l1,l1,l1", 0, 1, 2, 3), 3, 12, 15, 15, 15);
        // Persons 0 and 1 together light all and come first by numbers; person 2 does so alone.
        leastIs("fewest, then by numbers", Checks.office("w1,w1,w1", 0, 2, 1), 1, 1, 4);
    }

    private static void leastInAnyMinute() {
        says("nobody sits in the DARK in any of these");
        // It goes out in the second minute.
        DarkOffice x = Checks.office("l2,l1", 0);
        x.minute(1);
        leastIs("light now, dark then", x, 2, 1, 0, 1);
        leastIs("light now, dark then", x, 3, 1, 0, 1, 0);
        // It goes out in the third minute.
        DarkOffice y = Checks.office("l3,l1", 0);
        y.minute(1);
        leastIs("dark in the third", y, 3, 1, 0, 0, 1);
        // His own lamp must be lit, whatever others see him.
        leastIs("another lamp sees him", Checks.office("l1,h1", 0, 1), 1, 1, 1);
        leastIs("the last of four", Checks.office("h1,h1,h1,l1", 0, 1, 2, 3), 1, 1, 8);
    }

    private static void leastFirstByNumbers() {
        says("who WAVES in each MINUTE, as bits: of like ones the first by numbers (MINUTE by MINUTE).");
        leastIs("four like ones", Checks.office("h1,h1", 0, 1, 1, 0), 3, 3, 1, 1, 1);
        // A wave in any of three minutes will do: 0, 0, 1 comes first.
        DarkOffice x = Checks.office("h3,h3", 0, 1);
        x.minute(1);
        leastIs("late rather than early", x, 3, 1, 0, 0, 1);
        // 1, 0, 1 comes ahead of 1, 1, 0.
        leastIs("the second minute ahead of the third", Checks.office("h2,h2", 0, 1), 3, 2, 1, 0, 1);
        // Persons 0 and 2 sit in one section: 3 comes ahead of 6, though 6 has the like waves.
        leastIs("two of three", Checks.office("l1,l1", 0, 1, 0), 1, 2, 3);
        leastIs("two of three, the others", Checks.office("l1,l1", 0, 0, 1), 1, 2, 5);
    }

    private static void leastSoManieth() {
        says("10 to 12 who WAVES in the so-manieth MINUTE, as bits (NONE: there is no such MINUTE)");
        DarkOffice x = Checks.office("l1,l1,l1,l1", 0, 1, 2, 3);
        for (int minutes = 1; minutes <= 3; minutes++) {
            for (int minute = 1; minute <= 3; minute++) {
                due("least(" + minutes + ", " + (9 + minute) + ")", x.least(minutes, 9 + minute),
                        minute <= minutes ? 15 : NONE);
            }
        }
        DarkOffice nobody = Checks.office("l1,l1");
        due("least(1, 10) of nobody", nobody.least(1, 10), 0);
        due("least(1, 11) of nobody", nobody.least(1, 11), NONE);
        due("least(2, 12) of nobody", nobody.least(2, 12), NONE);
    }

    private static void leastRefused() {
        says("OUTSIDE: minutes, what; STATE: no OFFICE.");
        DarkOffice x = Checks.office("l1,l1", 0);
        DarkOffice none = new DarkOffice();
        for (int minutes = -2; minutes <= 6; minutes++) {
            for (int what = -2; what <= 15; what++) {
                boolean asTold = minutes >= 1 && minutes <= 3 && (what == 0 || what >= 10 && what <= 12);
                String call = "least(" + minutes + ", " + what + ")";
                due(call + " of no office", none.least(minutes, what), asTold ? STATE : OUTSIDE);
                due(call + " is outside", x.least(minutes, what) == OUTSIDE ? 1 : 0, asTold ? 0 : 1);
            }
        }
        for (int far : FAR) {
            due("least(" + far + ", 0)", x.least(far, 0), OUTSIDE);
            due("least(1, " + far + ")", x.least(1, far), OUTSIDE);
        }
    }

    private static void roundMinutes() {
        says("in how few MINUTES (1 to 7) all LAMPS are lit at its end");
        roundIs("one", Checks.office("h1,h1,h1", 2), 2, 1, 0);
        for (int many = 2; many <= 6; many++) {
            due("as many as lamps", Checks.office(Checks.alike("l9", many)).round(0, 0), many);
            due("as many as lamps, down", Checks.office(Checks.alike("l9", many)).round(many - 1, 0), many);
        }
        roundIs("seven", Checks.office(Checks.alike("l9", 6)), 1, 7, 0, 2, 2, 2, 2, 2, 0);
        roundIs("seven, down", Checks.office(Checks.alike("l9", 6)), 4, 7, 2, 0, 0, 0, 0, 0, 1);
        roundIs("eight are too many", Checks.office(Checks.alike("l9", 6)), 2, NONE);
        roundIs("eight are too many, down", Checks.office(Checks.alike("l9", 6)), 3, NONE);
        DarkOffice lit = Checks.office("h2,h2", 0);
        lit.minute(1);
        roundIs("all are lit already", lit, 0, 1, 1);
    }

    private static void roundWavesWhereHeIs() {
        says("ROUND of the guard from a SECTION: in each MINUTE he WAVES where he is");
        // In the first minute, ahead of his first step, he waves where he begins.
        roundIs("where he begins, at 0", Checks.office("l9,l9"), 0, 2, 2, 0);
        roundIs("where he begins, at the last", Checks.office("l9,l9"), 1, 2, 0, 1);
        // In the last one he waves where he came, not where he would go then.
        roundIs("where he came last", Checks.office("h1,l1,h1"), 0, 2, 2, 0);
        roundIs("where he came last, down", Checks.office("h1,l1,h1"), 2, 2, 0, 0);
        // In each: the lamp of the middle is lit as he goes by.
        roundIs("on the way", Checks.office("l9,l2,l1"), 0, 3, 2, 2, 0);
    }

    private static void roundAtItsEnd() {
        says("all LAMPS are lit at its end: how he goes");
        // Lamp 0 is lit in the first minute and must hold to the end of the third.
        roundIs("held for three", Checks.office("l3,l2,l1"), 0, 3, 2, 2, 0);
        // Lamp 0 goes out as lamp 2 is lit, and the other way round.
        roundIs("held for two", Checks.office("l2,l2,l2"), 0, NONE);
        roundIs("held for two, from the middle", Checks.office("l2,l9,l3"), 1, 4, 2, 0, 0, 1);
        DarkOffice lit = Checks.office("l2,l2", 0);
        lit.minute(1);
        roundIs("lit for two: it is lit at the end of one", lit, 1, 1, 0);
        DarkOffice goesOut = Checks.office("l1,l1", 0);
        goesOut.minute(1);
        roundIs("lit for one: it is dark at the end of one", goesOut, 1, NONE);
    }

    private static void roundNotBeyondTheEnds() {
        says("then goes to that of 1 less, stays, or goes to that of 1 more");
        // From 0 there is none of 1 less and from the last none of 1 more: he cannot go round behind the office.
        roundIs("up", Checks.office("l9,l9,l9"), 0, 3, 2, 2, 0);
        roundIs("down", Checks.office("l9,l9,l9"), 2, 3, 0, 0, 1);
        roundIs("not round behind it", Checks.office("l2,l9,l9,l9,l9,l2"), 5, NONE);
        roundIs("to the end and back", Checks.office("l9,l9,l9,l9"), 1, 5, 0, 2, 2, 2, 0);
        roundIs("to the other end and back", Checks.office("l9,l9,l9,l9"), 2, 5, 2, 0, 0, 0, 1);
        // He stays in vain: no lamp but his own is ever lit from there.
        roundIs("each goes out at once", Checks.office("l1,l1,l1"), 1, NONE);
    }

    private static void roundNobodyElse() {
        says("(nobody else WAVES)");
        DarkOffice x = Checks.office("l2,l2", 0, 1);
        due("people do not help: round(0, 0)", x.round(0, 0), 2);
        due("nobody waved", x.count(5), 0);
        due("nothing is lit", x.count(1), 0);
        due("no minute went", x.count(4), 0);
        due("of an office of nobody: round(0, 0)", Checks.office("l2,l2").round(0, 0), 2);
    }

    private static void roundFirstByNumbers() {
        says("of like ones the first by numbers (0 less, 1 stays, 2 more, MINUTE by MINUTE;");
        roundIs("down or up", Checks.office("l9,l9,l9"), 1, 4, 0, 2, 2, 0);
        roundIs("down or up of five", Checks.office("l9,l9,l9,l9,l9"), 2, 7, 0, 0, 2, 2, 2, 2, 0);
        // Lamps 0 and 4 are halls: he needs the three between, and down first is as short as up first.
        roundIs("down or up between", Checks.office("h9,l9,l9,l9,h9"), 2, 4, 0, 2, 2, 0);
        // Up first alone is short enough: lamp 1 goes out otherwise.
        roundIs("up, for down is none", Checks.office("h9,l2,l9,l9,h9"), 2, 4, 2, 0, 0, 0);
    }

    private static void roundBehindTheLast() {
        says("it does not matter how he goes behind the last one: 0, or 1 if there is no SECTION of 1 less)");
        DarkOffice x = Checks.office(Checks.alike("h1", 6));
        due("behind the last one at 0", x.round(0, 10), 1);
        for (int section = 1; section < 6; section++) {
            due("behind the last one at " + section, x.round(section, 10), 0);
        }
        due("at 1, behind the second", Checks.office("l9,l9").round(0, 11), 0);
        due("at 0, behind the second", Checks.office("l9,l9").round(1, 11), 1);
        due("at 5, behind the seventh", Checks.office(Checks.alike("l9", 6)).round(1, 16), 0);
        due("at 0, behind the seventh", Checks.office(Checks.alike("l9", 6)).round(4, 16), 1);
    }

    private static void roundSoManieth() {
        says("10 to 16 how he goes behind the so-manieth (NONE: there is no such MINUTE)");
        for (int many = 2; many <= 6; many++) {
            DarkOffice x = Checks.office(Checks.alike("l9", many));
            for (int minute = 1; minute <= 7; minute++) {
                int want = minute < many ? 2 : minute == many ? 0 : NONE;
                due("round(0, " + (9 + minute) + ") of " + many, x.round(0, 9 + minute), want);
            }
        }
        DarkOffice x = Checks.office("h1,h1");
        due("round(0, 10) of one minute", x.round(0, 10), 1);
        due("round(0, 11) of one minute", x.round(0, 11), NONE);
        due("round(0, 16) of one minute", x.round(0, 16), NONE);
    }

    private static void roundNone() {
        says("(NONE: there is no such MINUTE); NONE: there is none.");
        DarkOffice x = Checks.office("l1,l1");
        for (int section = 0; section < 2; section++) {
            roundIs("none", x, section, NONE);
        }
        due("they were done", x.count(10), 16);
    }

    private static void roundRefused() {
        says("NONE: there is none. UNKNOWN: section; OUTSIDE;");
        for (int many = 2; many <= 6; many++) {
            DarkOffice x = Checks.office(Checks.alike("h1", many));
            for (int what = -2; what <= 18; what++) {
                due("round(-1, " + what + ")", x.round(-1, what), UNKNOWN);
                due("round(" + many + ", " + what + ")", x.round(many, what), UNKNOWN);
                if (what != 0 && (what < 10 || what > 16)) {
                    due("round(0, " + what + ")", x.round(0, what), OUTSIDE);
                    due("round(" + (many - 1) + ", " + what + ")", x.round(many - 1, what), OUTSIDE);
                }
            }
            for (int far : FAR) {
                due("round(" + far + ", 0)", x.round(far, 0), UNKNOWN);
                due("round(0, " + far + ")", x.round(0, far), OUTSIDE);
            }
            due("the last section: round(" + (many - 1) + ", 0)", x.round(many - 1, 0), 1);
        }
    }

    private static void roundTwentyTimes() {
        says("STATE: round() was done 20 times ever (refusals do not count, all else does).");
        DarkOffice x = Checks.office("l1,l1");
        x.image();
        for (int time = 1; time <= 20; time++) {
            due("a refusal ahead of round " + time, x.round(2, 0), UNKNOWN);
            due("another ahead of round " + time, x.round(0, 17), OUTSIDE);
            due("count(10) ahead of round " + time, x.count(10), time - 1);
            due("round " + time, x.round(time % 2, time % 3 == 0 ? 16 : 0), NONE);
            if (time == 7) {
                due("restore()", x.restore(), 0);
            }
            if (time == 14) {
                Checks.write(x, "l1,l1");
                due("office()", x.office(), 2);
            }
        }
        due("round 21", x.round(0, 0), STATE);
        due("round 21 again", x.round(1, 16), STATE);
        due("round 21 of no section", x.round(2, 0), UNKNOWN);
        due("round 21 of no section, outside", x.round(-1, 17), UNKNOWN);
        due("round 21, outside", x.round(0, 17), OUTSIDE);
        due("count(10)", x.count(10), 20);
        x.image();
        x.restore();
        due("round 21 behind restore()", x.round(0, 0), STATE);
        Checks.write(x, "h1,h1");
        x.office();
        due("round 21 in another office", x.round(0, 0), STATE);
        due("count(10) there", x.count(10), 20);
        due("another object has its own 20", Checks.office("h1,h1").round(0, 0), 1);
    }

    private static void togetherLeast() {
        says("TOGETHER: the SECTION that most LAMPS see: of like ones the least");
        for (int many = 2; many <= 6; many++) {
            due("all alike: together(0)", Checks.office(Checks.alike("l1", many)).together(0), 0);
            due("halls alike: together(0)", Checks.office(Checks.alike("h1", many)).together(0), 0);
            due("wide ones: together(0)", Checks.office(Checks.alike("w1", many)).together(0), many == 2 ? 0 : 1);
            due("twins: together(0)", Checks.office(Checks.alike("t1", many)).together(0), 1);
        }
        due("the last: together(0)", Checks.office("l1,l1,l1,l1,t1,l1").together(0), 5);
        due("two like ones, not the first: together(0)", Checks.office("l1,t1,l1,t1,l1").together(0), 2);
        due("people do not matter: together(0)", Checks.office("l1,l1", 1, 1, 1, 1).together(0), 0);
    }

    private static void togetherHowMany() {
        says("of like ones the least; how many LAMPS.");
        for (int many = 2; many <= 6; many++) {
            due("one: together(1)", Checks.office(Checks.alike("l9", many)).together(1), 1);
            due("all: together(1)", Checks.office(Checks.alike("h9", many)).together(1), many);
        }
        // Lamp 1 sees but one section; its own is seen by two.
        due("its own and the hall: together(1)", Checks.office("h1,l1,l1").together(1), 2);
    }

    private static void togetherRefused() {
        says("1 how many LAMPS. OUTSIDE; STATE: no OFFICE.");
        DarkOffice x = Checks.office("l1,l1");
        DarkOffice none = new DarkOffice();
        for (int what : new int[] {-1, 2, 10, Integer.MIN_VALUE, Integer.MAX_VALUE}) {
            due("together(" + what + ")", x.together(what), OUTSIDE);
            due("together(" + what + ") of no office", none.together(what), OUTSIDE);
        }
        due("together(0) of no office", none.together(0), STATE);
        due("together(1) of no office", none.together(1), STATE);
    }
}
