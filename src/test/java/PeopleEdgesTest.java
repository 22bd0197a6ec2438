/** People, minutes and promises 8 to 11: each sentence that names a boundary case, in a test of its own. */
public final class PeopleEdgesTest {
    private static final Checks CHECKS = new Checks("PeopleEdgesTest");
    private static final int UNKNOWN = DarkOffice.UNKNOWN;
    private static final int OUTSIDE = DarkOffice.OUTSIDE;
    private static final int STATE = DarkOffice.STATE;
    private static final int FULL = DarkOffice.FULL;
    private static final int[] FAR = {Integer.MIN_VALUE, -256, -1, 256, 1 << 16, Integer.MAX_VALUE};

    public static void main(String[] args) {
        fourAtMost();
        severalInOne();
        personNumbers();
        personNowhere();
        personFull();
        aboutSection();
        aboutLit();
        aboutWaved();
        aboutDark();
        aboutRefused();
        moveWithoutStirring();
        moveRefused();
        litForAsLongAsItHolds();
        oneLessAndThenDark();
        inTheDarkByHisOwnLamp();
        minuteAnswers();
        minuteOutside();
        minuteOfNoOffice();
        CHECKS.end();
    }

    private static void says(String words) {
        CHECKS.says(words);
    }

    private static void due(String call, long got, long want) {
        CHECKS.due(call, got, want);
    }

    private static void fourAtMost() {
        says("PEOPLE (4 at most, numbered)");
        DarkOffice x = Checks.office("l1,l1,l1,l1,l1,l1");
        for (int many = 0; many < 4; many++) {
            due("count(2)", x.count(2), many);
            due("about(" + many + ", 0) ahead of him", x.about(many, 0), UNKNOWN);
            due("person " + many, x.person(5 - many), many);
            due("about(" + many + ", 0)", x.about(many, 0), 5 - many);
        }
        due("a fifth one", x.person(0), FULL);
        due("count(2)", x.count(2), 4);
        due("about(4, 0)", x.about(4, 0), UNKNOWN);
    }

    private static void severalInOne() {
        says("sit in SECTIONS (several may in one)");
        DarkOffice x = Checks.office("l1,l1,l1", 2, 2, 2, 2);
        due("all four in one", x.lamp(2, 4), 15);
        due("all four in the dark", x.minute(0), 4);
        due("one waves for all four", x.minute(8), 0);
        due("all four in light", x.count(3), 4);
    }

    private static void personNumbers() {
        says("A PERSON in a SECTION: his number.");
        for (int many = 2; many <= 6; many++) {
            DarkOffice x = Checks.office(Checks.alike("l1", many));
            due("in the first section", x.person(0), 0);
            due("in the last section", x.person(many - 1), 1);
            due("in the first again", x.person(0), 2);
            due("about(1, 0)", x.about(1, 0), many - 1);
        }
    }

    private static void personNowhere() {
        says("his number. UNKNOWN: section");
        for (int many = 2; many <= 6; many++) {
            DarkOffice x = Checks.office(Checks.alike("l1", many));
            due("person(-1)", x.person(-1), UNKNOWN);
            due("person(" + many + ")", x.person(many), UNKNOWN);
            for (int far : FAR) {
                due("person(" + far + ")", x.person(far), UNKNOWN);
            }
            due("nobody came", x.count(2), 0);
        }
        DarkOffice x = Checks.office("l1,l1", 0, 0, 0, 0);
        due("a fifth one, nowhere", x.person(2), UNKNOWN);
        due("a fifth one, below", x.person(-1), UNKNOWN);
    }

    private static void personFull() {
        says("UNKNOWN: section; FULL.");
        DarkOffice x = Checks.office("l1,l1", 0, 0, 0);
        x.image();
        due("a fourth one", x.person(1), 3);
        due("a fifth one", x.person(1), FULL);
        due("a fifth one again", x.person(0), FULL);
        due("section 1", x.lamp(1, 4), 8);
        x.restore();
        due("a fourth one behind restore()", x.person(0), 3);
        due("a fifth one behind restore()", x.person(0), FULL);
        Checks.write(x, "l1,l1");
        x.office();
        due("a first one in another office", x.person(0), 0);
    }

    private static void aboutSection() {
        says("Of a PERSON: what = 0 his SECTION");
        for (int many = 2; many <= 6; many++) {
            DarkOffice x = Checks.office(Checks.alike("l1", many), many - 1, 0, 0, many - 1);
            int[] wants = {many - 1, 0, 0, many - 1};
            for (int person = 0; person < 4; person++) {
                due("about(" + person + ", 0) of " + many, x.about(person, 0), wants[person]);
            }
        }
    }

    private static void aboutLit() {
        says("1 whether its LAMP is lit (1, 0)");
        DarkOffice x = Checks.office("l9,h9", 0, 1);
        due("at first", x.about(0, 1), 0);
        x.minute(2);
        due("another lamp sees him", x.about(0, 1), 0);
        due("his own is lit for nine", x.about(1, 1), 1);
        for (int minute = 1; minute <= 8; minute++) {
            x.minute(0);
        }
        due("his own is lit for one", x.about(1, 1), 1);
        x.minute(0);
        due("his own went out", x.about(1, 1), 0);
    }

    private static void aboutWaved() {
        says("2 how often he WAVED");
        DarkOffice x = Checks.office("l1,l1", 0, 0, 0, 0);
        for (int person = 0; person < 4; person++) {
            due("never: about(" + person + ", 2)", x.about(person, 2), 0);
        }
        x.minute(0b0000);
        x.minute(0b1000);
        x.minute(0b1100);
        x.minute(0b1111);
        int[] wants = {1, 1, 2, 3};
        for (int person = 0; person < 4; person++) {
            due("about(" + person + ", 2)", x.about(person, 2), wants[person]);
        }
        DarkOffice first = Checks.office("h9,h9", 0, 0);
        first.minute(0b11);
        due("in the first minute: about(1, 2)", first.about(1, 2), 1);
        first.minute(0b10);
        due("where all is lit already: about(1, 2)", first.about(1, 2), 2);
        due("the other one: about(0, 2)", first.about(0, 2), 1);
    }

    private static void aboutDark() {
        says("3 how often he sat in the DARK.");
        DarkOffice x = Checks.office("l1,l1", 0, 1);
        due("he just came: about(0, 3)", x.about(0, 3), 0);
        x.minute(1);
        due("he waved: about(0, 3)", x.about(0, 3), 0);
        due("he did not: about(1, 3)", x.about(1, 3), 1);
        x.minute(0);
        x.move(0, 1);
        due("he went: about(0, 3)", x.about(0, 3), 1);
        x.person(0);
        due("a new one: about(2, 3)", x.about(2, 3), 0);
    }

    private static void aboutRefused() {
        says("3 how often he sat in the DARK. UNKNOWN; OUTSIDE.");
        for (int many = 0; many <= 4; many++) {
            DarkOffice x = Checks.office("l1,l1", new int[many]);
            for (int what = -1; what <= 4; what++) {
                due("about(-1, " + what + ")", x.about(-1, what), UNKNOWN);
                due("about(" + many + ", " + what + ")", x.about(many, what), UNKNOWN);
            }
            for (int person = 0; person < many; person++) {
                due("about(" + person + ", -1)", x.about(person, -1), OUTSIDE);
                due("about(" + person + ", 4)", x.about(person, 4), OUTSIDE);
            }
        }
        DarkOffice x = Checks.office("l1,l1", 0);
        for (int far : FAR) {
            due("about(" + far + ", 0)", x.about(far, 0), UNKNOWN);
            due("about(0, " + far + ")", x.about(0, far), OUTSIDE);
        }
    }

    private static void moveWithoutStirring() {
        says("He goes to another SECTION (without stirring): where he was.");
        DarkOffice x = Checks.office("h9,h9,h9,h9,h9,h9", 0);
        due("from the first to the last", x.move(0, 5), 0);
        due("from the last to the first", x.move(0, 0), 5);
        due("where he is already", x.move(0, 0), 0);
        due("nothing is lit", x.count(1), 0);
        due("he did not wave", x.count(5), 0);
        due("no minute went", x.count(4), 0);
        due("he was not in the dark", x.count(6), 0);
        due("about(0, 0)", x.about(0, 0), 0);
    }

    private static void moveRefused() {
        says("UNKNOWN: person, section.");
        for (int many = 2; many <= 6; many++) {
            DarkOffice x = Checks.office(Checks.alike("l1", many), 0, 1);
            due("move(-1, 0)", x.move(-1, 0), UNKNOWN);
            due("move(2, 0)", x.move(2, 0), UNKNOWN);
            due("move(0, -1)", x.move(0, -1), UNKNOWN);
            due("move(0, " + many + ")", x.move(0, many), UNKNOWN);
            due("move(2, " + many + ")", x.move(2, many), UNKNOWN);
            for (int far : FAR) {
                due("move(" + far + ", 0)", x.move(far, 0), UNKNOWN);
                due("move(0, " + far + ")", x.move(0, far), UNKNOWN);
            }
            due("about(0, 0)", x.about(0, 0), 0);
            due("about(1, 0)", x.about(1, 0), 1);
            due("to the last: move(0, " + (many - 1) + ")", x.move(0, many - 1), 0);
        }
    }

    private static void litForAsLongAsItHolds() {
        says("Each LAMP that sees any SECTION in which one WAVES is lit, for as many MINUTES as it HOLDS");
        DarkOffice x = Checks.office("h9,l1", 0, 0, 1);
        x.minute(0b001);
        due("by one", x.lamp(0, 2), 9);
        x.minute(0b001);
        due("again: not for more", x.lamp(0, 2), 9);
        x.minute(0b111);
        due("by three: not for more", x.lamp(0, 2), 9);
        x.minute(0b000);
        x.minute(0b100);
        due("lit anew from 8", x.lamp(0, 2), 9);
        due("it holds for one", x.lamp(1, 2), 1);
    }

    private static void oneLessAndThenDark() {
        says("each other one that is lit is so for one less; by none it is dark.");
        DarkOffice x = Checks.office("l9,l1", 0, 1);
        x.minute(0b11);
        due("one: lamp(1, 2)", x.lamp(1, 2), 1);
        for (int left = 8; left >= 0; left--) {
            x.minute(0);
            due("one less", x.lamp(0, 2), left);
            due("dark stays dark", x.lamp(1, 2), 0);
            due("count(1)", x.count(1), left > 0 ? 1 : 0);
        }
        x.minute(0);
        due("not below 0", x.lamp(0, 2), 0);
        due("count(1)", x.count(1), 0);
    }

    private static void inTheDarkByHisOwnLamp() {
        says("Then each of PEOPLE in whose SECTION the LAMP is dark sits in the DARK (it counts).");
        DarkOffice x = Checks.office("l1,h1", 0, 1);
        due("another lamp sees him, his own is dark", x.minute(0b10), 1);
        due("about(0, 3)", x.about(0, 3), 1);
        due("about(1, 3)", x.about(1, 3), 0);
        due("his own goes out in this minute", x.minute(0), 2);
        due("his own is lit in this minute", x.minute(0b01), 0);
        due("about(0, 3)", x.about(0, 3), 2);
        due("about(1, 3)", x.about(1, 3), 1);
        due("count(6)", x.count(6), 3);
    }

    private static void minuteAnswers() {
        says("A MINUTE: who WAVES (bits of PEOPLE): how many sit in the DARK.");
        for (int who = 0; who <= 15; who++) {
            DarkOffice x = Checks.office("l1,l1,l1,l1", 0, 1, 2, 3);
            due("minute(" + who + ")", x.minute(who), 4 - Integer.bitCount(who));
            for (int person = 0; person < 4; person++) {
                due("minute(" + who + "), about(" + person + ", 2)", x.about(person, 2), who >> person & 1);
            }
        }
        DarkOffice x = Checks.office("l1,l1,l1,l1", 0, 1, 2, 3);
        due("minute(0)", x.minute(0), 4);
        due("minute(0) again: of this one alone", x.minute(0), 4);
        due("minute(15) then", x.minute(15), 0);
        DarkOffice nobody = Checks.office("l1,l1");
        due("minute(0) of nobody", nobody.minute(0), 0);
        due("it went by", nobody.count(4), 1);
    }

    private static void minuteOutside() {
        says("OUTSIDE: who (a bit that names nobody)");
        for (int many = 0; many <= 4; many++) {
            DarkOffice x = Checks.office("l1,l1", new int[many]);
            for (int bit = 0; bit < 32; bit++) {
                int who = 1 << bit;
                if (bit >= many) {
                    due("minute(" + who + ") of " + many, x.minute(who), OUTSIDE);
                    due("with all others: minute of bit " + bit, x.minute(who | (1 << many) - 1), OUTSIDE);
                }
            }
            due("minute(-1) of " + many, x.minute(-1), OUTSIDE);
            due("minute(MAX) of " + many, x.minute(Integer.MAX_VALUE), OUTSIDE);
            due("no minute went", x.count(4), 0);
            due("nobody waved", x.count(5), 0);
            due("all wave: minute(" + ((1 << many) - 1) + ")", x.minute((1 << many) - 1), 0);
            due("they waved", x.count(5), many);
        }
        due("minute(1) of no office", new DarkOffice().minute(1), OUTSIDE);
        due("minute(MIN) of no office", new DarkOffice().minute(Integer.MIN_VALUE), OUTSIDE);
    }

    private static void minuteOfNoOffice() {
        says("OUTSIDE: who (a bit that names nobody); STATE: no OFFICE.");
        DarkOffice x = new DarkOffice();
        due("minute(0)", x.minute(0), STATE);
        due("count(4)", x.count(4), 0);
        Checks.write(x, "l1,l1");
        due("minute(0) of a page", x.minute(0), STATE);
        x.office();
        due("minute(0) of an office", x.minute(0), 0);
    }
}
