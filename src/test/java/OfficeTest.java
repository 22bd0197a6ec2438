/** Promises 1 to 7: a new object, letter, blank, fault, office, lamp, as. */
public final class OfficeTest {
    private static final Checks CHECKS = new Checks("OfficeTest");

    public static void main(String[] args) {
        aNewObject();
        letter();
        blank();
        fault();
        faultAtEveryPlace();
        office();
        officeRefused();
        anotherOffice();
        lamp();
        lampRefused();
        as();
        CHECKS.end();
    }

    private static void due(String call, long got, long want) {
        CHECKS.due(call, got, want);
    }

    private static void aNewObject() {
        DarkOffice x = new DarkOffice();
        for (int what = 0; what <= 10; what++) {
            due("new: count(" + what + ")", x.count(what), 0);
        }
        due("new: lamp(0, 0)", x.lamp(0, 0), DarkOffice.UNKNOWN);
        due("new: lamp(0, 9)", x.lamp(0, 9), DarkOffice.UNKNOWN);
        due("new: as(0, 0)", x.as(0, 0), DarkOffice.UNKNOWN);
        due("new: person(0)", x.person(0), DarkOffice.UNKNOWN);
        due("new: about(0, 0)", x.about(0, 0), DarkOffice.UNKNOWN);
        due("new: move(0, 0)", x.move(0, 0), DarkOffice.UNKNOWN);
        due("new: minute(0)", x.minute(0), DarkOffice.STATE);
        due("new: minute(1)", x.minute(1), DarkOffice.OUTSIDE);
        due("new: least(1, 0)", x.least(1, 0), DarkOffice.STATE);
        due("new: least(4, 0)", x.least(4, 0), DarkOffice.OUTSIDE);
        due("new: round(0, 0)", x.round(0, 0), DarkOffice.UNKNOWN);
        due("new: together(0)", x.together(0), DarkOffice.STATE);
        due("new: together(2)", x.together(2), DarkOffice.OUTSIDE);
        due("new: book(0, 0, true)", x.book(0, 0, true), DarkOffice.UNKNOWN);
        due("new: book(7, 0, true)", x.book(7, 0, true), DarkOffice.OUTSIDE);
        due("new: forget()", x.forget(), 0);
        due("new: waved(0, 1, 0)", x.waved(0, 1, 0), DarkOffice.UNKNOWN);
        due("new: look(0, 1)", x.look(0, 1), DarkOffice.UNKNOWN);
        due("new: nights(1, 0, 0)", x.nights(1, 0, 0), DarkOffice.STATE);
        due("new: nights(0, 0, 0)", x.nights(0, 0, 0), DarkOffice.OUTSIDE);
        due("new: image()", x.image(), DarkOffice.STATE);
        due("new: restore()", x.restore(), DarkOffice.STATE);
        due("new: office()", x.office(), DarkOffice.STATE);
        due("new: fault()", x.fault(), 0);
        due("new: blank()", x.blank(), 0);
        long h = 911;
        for (int what = 0; what <= 10; what++) {
            h = 31 * h;
        }
        due("new: digest()", x.digest(), h);
    }

    private static void letter() {
        DarkOffice x = new DarkOffice();
        due("letter(0)", x.letter(0), DarkOffice.OUTSIDE);
        due("letter(127)", x.letter(127), DarkOffice.OUTSIDE);
        due("letter(-1)", x.letter(-1), DarkOffice.OUTSIDE);
        due("letter(MIN)", x.letter(Integer.MIN_VALUE), DarkOffice.OUTSIDE);
        due("letter(MAX)", x.letter(Integer.MAX_VALUE), DarkOffice.OUTSIDE);
        due("letter(1)", x.letter(1), 1);
        due("letter(126)", x.letter(126), 2);
        for (int many = 3; many <= 20; many++) {
            due("letter " + many, x.letter('l'), many);
        }
        due("letter 21", x.letter('l'), DarkOffice.FULL);
        due("letter 21, outside", x.letter(0), DarkOffice.OUTSIDE);
        due("full: count(8)", x.count(8), 20);
    }

    private static void blank() {
        DarkOffice x = new DarkOffice();
        Checks.write(x, "zzz");
        due("blank() of 3", x.blank(), 3);
        due("blank() again", x.blank(), 0);
        due("fault() of a blank page", x.fault(), 0);
        Checks.write(x, "l1,l1");
        due("office() behind blank()", x.office(), 2);
    }

    private static void fault() {
        faultIs("", 0);
        faultIs("l", 1);
        faultIs("l1", 2);
        faultIs("l1,", 3);
        faultIs("l1,l1", 5);
        faultIs("x1,l1", 0);
        faultIs("L1,l1", 0);
        faultIs("l0,l1", 1);
        faultIs("ll,l1", 1);
        faultIs("l1;l1", 2);
        faultIs("l1l1", 2);
        faultIs("l1,,", 3);
        faultIs("l1,w2,t3,d9,h4,l5", 17);
        faultIs("l1,w2,t3,d9,h4,l5,", 17);
        faultIs("l1,w2,t3,d9,h4,l5,l1", 17);
        faultIs("l12", 2);
    }

    private static void faultIs(String text, int want) {
        DarkOffice x = new DarkOffice();
        Checks.write(x, text);
        due("fault() of " + text, x.fault(), want);
        due("letters of " + text, x.count(8), text.length());
    }

    /** Every code at each place of an office: only those that an office has there pass. */
    private static void faultAtEveryPlace() {
        String[] fit = {"lwtdh", "123456789", ","};
        String text = "l1,w2,t3,d9,h4,l5,";
        for (int place = 0; place < text.length(); place++) {
            for (int code = 1; code <= 126; code++) {
                DarkOffice x = new DarkOffice();
                Checks.write(x, text.substring(0, place));
                x.letter(code);
                boolean passes = place < 17 && fit[place % 3].indexOf(code) >= 0;
                due("fault() of code " + code + " at " + place, x.fault(), passes ? place + 1 : place);
            }
        }
    }

    private static void office() {
        DarkOffice x = new DarkOffice();
        Checks.write(x, "l1,w9");
        due("office() of 2", x.office(), 2);
        due("the page is empty then", x.count(8), 0);
        due("count(0)", x.count(0), 2);
        due("count(1)", x.count(1), 0);
        due("count(9)", x.count(9), 1);
        due("lamp(1, 2)", x.lamp(1, 2), 0);
        Checks.write(x, "l1,w2,t3,d4,h5,l6");
        due("office() of 6", x.office(), 6);
        due("count(9)", x.count(9), 2);
    }

    private static void officeRefused() {
        String[] none = {"", "l", "l1", "l1,", "l1,l", "l1,l1,", "l0,l1", "l1,l1,l1,l1,l1,l1,", "l1,l1,l1,l1,l1,l1,l1",
            "l1 l1", "x1,l1", "l1,l1x"};
        for (String text : none) {
            DarkOffice x = Checks.office("h2,h2", 1);
            x.minute(1);
            long before = x.count(0) + 10 * x.count(1) + 100 * x.count(2) + 1000 * x.count(4) + 10000 * x.count(9);
            Checks.write(x, text);
            due("office() of " + text, x.office(), DarkOffice.STATE);
            due("letters kept of " + text, x.count(8), text.length());
            due("all kept at " + text, x.count(0) + 10 * x.count(1) + 100 * x.count(2) + 1000 * x.count(4)
                    + 10000 * x.count(9), before);
        }
    }

    private static void anotherOffice() {
        DarkOffice x = Checks.office("l3,l3,l3", 0, 2);
        x.minute(3);
        for (int minute = 0; minute < 4; minute++) {
            x.minute(0);
        }
        x.minute(1);
        x.book(1, 0, true);
        x.image();
        x.round(0, 0);
        Checks.write(x, "w2,t3");
        due("office() again", x.office(), 2);
        int[] wants = {2, 0, 0, 0, 0, 0, 0, 0, 0, 2, 1};
        for (int what = 0; what < wants.length; what++) {
            due("another office: count(" + what + ")", x.count(what), wants[what]);
        }
        due("another office: lamp(0, 0)", x.lamp(0, 0), 1);
        due("another office: lamp(0, 1)", x.lamp(0, 1), 2);
        due("another office: lamp(1, 3)", x.lamp(1, 3), 2);
        due("another office: lamp(2, 0)", x.lamp(2, 0), DarkOffice.UNKNOWN);
        due("another office: about(0, 0)", x.about(0, 0), DarkOffice.UNKNOWN);
        due("another office: restore()", x.restore(), DarkOffice.STATE);
        due("another office: person(1)", x.person(1), 0);
        due("another office: about(0, 2)", x.about(0, 2), 0);
        due("another office: about(0, 3)", x.about(0, 3), 0);
        due("another office: waved(0, 1, 0)", x.waved(0, 1, 0), 2);
    }

    private static void lamp() {
        DarkOffice x = Checks.office("l3,w2,t4,d5,h1,t9", 0, 3, 3, 5);
        int[][] wants = {
            {0, 3, 0, 0b000001, 0b0001, 3},
            {1, 2, 0, 0b000111, 0b0000, 2},
            {2, 4, 0, 0b001100, 0b0000, 3},
            {3, 3, 0, 0b001000, 0b0110, 3},
            {4, 1, 0, 0b111111, 0b0000, 1},
            {2, 9, 0, 0b100000, 0b1000, 2},
        };
        lampsAre("before", x, wants);
        x.minute(0b0001);
        wants[0][2] = 3;
        wants[1][2] = 2;
        wants[4][2] = 1;
        lampsAre("behind a wave", x, wants);
        x.minute(0b1000);
        wants[0][2] = 2;
        wants[1][2] = 1;
        wants[4][2] = 1;
        wants[5][2] = 9;
        lampsAre("behind another", x, wants);
        tiredHolds();
        wideAtTheEnds();
    }

    private static void lampsAre(String when, DarkOffice x, int[][] wants) {
        for (int lamp = 0; lamp < wants.length; lamp++) {
            for (int what = 0; what <= 5; what++) {
                due(when + ": lamp(" + lamp + ", " + what + ")", x.lamp(lamp, what), wants[lamp][what]);
            }
        }
    }

    private static void tiredHolds() {
        int[] halves = {0, 1, 1, 2, 2, 3, 3, 4, 4, 5};
        for (int digit = 1; digit <= 9; digit++) {
            DarkOffice x = Checks.office("d" + digit + ",l" + digit, 0, 1);
            due("d" + digit + ": lamp(0, 1)", x.lamp(0, 1), halves[digit]);
            due("l" + digit + ": lamp(1, 1)", x.lamp(1, 1), digit);
            x.minute(3);
            due("d" + digit + ": lamp(0, 2)", x.lamp(0, 2), halves[digit]);
            due("l" + digit + ": lamp(1, 2)", x.lamp(1, 2), digit);
        }
    }

    private static void wideAtTheEnds() {
        DarkOffice x = Checks.office("w1,h1,t1,w1");
        due("w at 0", x.lamp(0, 3), 0b0011);
        due("h at 1 of 4", x.lamp(1, 3), 0b1111);
        due("t at 2", x.lamp(2, 3), 0b1100);
        due("w at the last", x.lamp(3, 3), 0b1100);
    }

    private static void lampRefused() {
        DarkOffice x = Checks.office("l3,w2");
        due("lamp(-1, 0)", x.lamp(-1, 0), DarkOffice.UNKNOWN);
        due("lamp(2, 0)", x.lamp(2, 0), DarkOffice.UNKNOWN);
        due("lamp(2, 6)", x.lamp(2, 6), DarkOffice.UNKNOWN);
        due("lamp(MAX, 0)", x.lamp(Integer.MAX_VALUE, 0), DarkOffice.UNKNOWN);
        due("lamp(MIN, 0)", x.lamp(Integer.MIN_VALUE, 0), DarkOffice.UNKNOWN);
        due("lamp(0, -1)", x.lamp(0, -1), DarkOffice.OUTSIDE);
        due("lamp(0, 6)", x.lamp(0, 6), DarkOffice.OUTSIDE);
        due("lamp(0, MIN)", x.lamp(0, Integer.MIN_VALUE), DarkOffice.OUTSIDE);
    }

    private static void as() {
        DarkOffice x = Checks.office("h1,d1,t1,w1,l1");
        int none = DarkOffice.NONE;
        int[][] wants = {
            {0, 0, none, none, 0},
            {1, none, none, 1, none},
            {2, none, 2, none, none},
            {3, 3, none, none, none},
            {4, none, none, none, none},
        };
        for (int lamp = 0; lamp < 5; lamp++) {
            for (int kind = 0; kind <= 4; kind++) {
                due("as(" + lamp + ", " + kind + ")", x.as(lamp, kind), wants[lamp][kind]);
            }
        }
        due("as(5, 0)", x.as(5, 0), DarkOffice.UNKNOWN);
        due("as(-1, 5)", x.as(-1, 5), DarkOffice.UNKNOWN);
        due("as(0, 5)", x.as(0, 5), DarkOffice.OUTSIDE);
        due("as(0, -1)", x.as(0, -1), DarkOffice.OUTSIDE);
    }
}
