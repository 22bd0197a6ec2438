import java.util.Arrays;

/** The office and promises 1 to 7: each sentence of the document that names a boundary case, in a test of its own. */
public final class OfficeEdgesTest {
    private static final Checks CHECKS = new Checks("OfficeEdgesTest");
    private static final int NONE = DarkOffice.NONE;
    private static final int UNKNOWN = DarkOffice.UNKNOWN;
    private static final int OUTSIDE = DarkOffice.OUTSIDE;
    private static final int STATE = DarkOffice.STATE;
    private static final int FULL = DarkOffice.FULL;
    private static final int[] FAR = {Integer.MIN_VALUE, -256, -1, 256, 1 << 16, Integer.MAX_VALUE};

    public static void main(String[] args) {
        noOffice();
        darkAtFirst();
        twoToSixLamps();
        commaBetween();
        sectionsFromZero();
        holdsOneToNine();
        kindsByLetter();
        lampSeesItsOwn();
        wideSeesNoFurtherThanTheEnds();
        twinSeesNoFurtherThanTheEnd();
        tiredHoldsHalf();
        hallSeesAll();
        letterCounts();
        letterOutside();
        letterFull();
        blankOfAnyLength();
        faultAtAnyPlace();
        faultOfNone();
        officeGoneWithAllThatWas();
        officeEmptiesThePage();
        officeOfNone();
        lampHolds();
        lampLitYet();
        lampSeesAsBits();
        lampPeopleAsBits();
        lampSeenByHowMany();
        lampRefused();
        asItsOwnNumber();
        allAreLamps();
        asNone();
        asRefused();
        CHECKS.end();
    }

    private static void says(String words) {
        CHECKS.says(words);
    }

    private static void due(String call, long got, long want) {
        CHECKS.due(call, got, want);
    }

    private static DarkOffice page(String text) {
        DarkOffice x = new DarkOffice();
        Checks.write(x, text);
        return x;
    }

    private static void noOffice() {
        says("`DarkOffice()`: No OFFICE.");
        DarkOffice x = new DarkOffice();
        for (int what = 0; what <= 10; what++) {
            due("count(" + what + ")", x.count(what), 0);
        }
        due("lamp(0, 0)", x.lamp(0, 0), UNKNOWN);
        due("as(0, 0)", x.as(0, 0), UNKNOWN);
        due("person(0)", x.person(0), UNKNOWN);
        due("about(0, 0)", x.about(0, 0), UNKNOWN);
        due("move(0, 0)", x.move(0, 0), UNKNOWN);
        due("minute(0)", x.minute(0), STATE);
        due("least(1, 0)", x.least(1, 0), STATE);
        due("round(0, 0)", x.round(0, 0), UNKNOWN);
        due("together(0)", x.together(0), STATE);
        due("book(0, 0, true)", x.book(0, 0, true), UNKNOWN);
        due("forget()", x.forget(), 0);
        due("waved(0, 1, 0)", x.waved(0, 1, 0), UNKNOWN);
        due("look(0, 1)", x.look(0, 1), UNKNOWN);
        due("nights(1, 0, 0)", x.nights(1, 0, 0), STATE);
        due("image()", x.image(), STATE);
        due("restore()", x.restore(), STATE);
    }

    private static void darkAtFirst() {
        says("At first there is none; all LAMPS are dark then.");
        DarkOffice x = Checks.office(Checks.alike("h9", 6), 0);
        x.minute(1);
        due("all are lit: count(1)", x.count(1), 6);
        Checks.write(x, Checks.alike("h9", 6));
        x.office();
        due("another office: count(1)", x.count(1), 0);
        for (int lamp = 0; lamp < 6; lamp++) {
            due("another office: lamp(" + lamp + ", 2)", x.lamp(lamp, 2), 0);
        }
    }

    private static void twoToSixLamps() {
        says("two to six LAMPS");
        for (int many = 0; many <= 6; many++) {
            DarkOffice x = page(Checks.alike("w9", many));
            due("office() of " + many, x.office(), many < 2 ? STATE : many);
            due("count(0) of " + many, x.count(0), many < 2 ? 0 : many);
        }
        DarkOffice x = page(Checks.alike("w9", 7));
        due("letters of 7 lamps", x.count(8), 20);
        due("fault() of 7 lamps", x.fault(), 17);
        due("office() of 7 lamps", x.office(), STATE);
    }

    private static void commaBetween() {
        says("(numbered from 0, side by side) with \",\" between");
        due("office() with a comma", page("l1,l1").office(), 2);
        String[] none = {",l1,l1", "l1,l1,", "l1,,l1", "l1l1", "l1.l1", "l1;l1", "l1-l1", "l1+l1", "l1 l1", "l1, l1",
            "l,1l,1", ",", ",,,,,"};
        for (String text : none) {
            due("office() of " + text, page(text).office(), STATE);
        }
        for (int code = 1; code <= 126; code++) {
            DarkOffice x = page("l1");
            x.letter(code);
            Checks.write(x, "l1");
            due("office() with " + code + " between", x.office(), code == 44 ? 2 : STATE);
        }
    }

    private static void sectionsFromZero() {
        says("one for each SECTION (numbered from 0, side by side)");
        for (int many = 2; many <= 6; many++) {
            for (int section = -1; section <= many; section++) {
                DarkOffice x = Checks.office(Checks.alike("l1", many));
                boolean there = section >= 0 && section < many;
                due("section " + section + " of " + many, x.person(section), there ? 0 : UNKNOWN);
                due("lamp " + section + " of " + many, x.lamp(section, 4), there ? 1 : UNKNOWN);
            }
        }
    }

    private static void holdsOneToNine() {
        says("each a letter, the KIND, and a digit HOLDS (1 to 9 MINUTES)");
        for (int code = 1; code <= 126; code++) {
            boolean fits = code >= 49 && code <= 57;
            for (int lamp = 0; lamp < 2; lamp++) {
                DarkOffice x = page(lamp == 0 ? "l" : "l1,l");
                x.letter(code);
                Checks.write(x, lamp == 0 ? ",l1" : "");
                due("office() with the digit " + code + " at " + lamp, x.office(), fits ? 2 : STATE);
                due("lamp(" + lamp + ", 1) of " + code, x.lamp(lamp, 1), fits ? code - 48 : UNKNOWN);
            }
        }
    }

    private static void kindsByLetter() {
        says("KINDS are told by the letter: 0 LAMP \"l\", 1 WIDE \"w\", 2 TWIN \"t\", 3 TIRED \"d\", 4 HALL \"h\".");
        int[] kinds = new int[127];
        Arrays.fill(kinds, NONE);
        kinds[108] = 0;
        kinds[119] = 1;
        kinds[116] = 2;
        kinds[100] = 3;
        kinds[104] = 4;
        for (int code = 1; code <= 126; code++) {
            for (int lamp = 0; lamp < 2; lamp++) {
                DarkOffice x = page(lamp == 0 ? "" : "l1,");
                x.letter(code);
                Checks.write(x, lamp == 0 ? "1,l1" : "1");
                due("office() with the letter " + code + " at " + lamp, x.office(), kinds[code] < 0 ? STATE : 2);
                due("lamp(" + lamp + ", 0) of " + code, x.lamp(lamp, 0), kinds[code] < 0 ? UNKNOWN : kinds[code]);
            }
        }
    }

    private static void lampSeesItsOwn() {
        says("A LAMP sees its own SECTION");
        int[] wants = {1, 2, 4, 8, 16, 32};
        seesAre("l1", wants);
        seesAre("d1", wants);
    }

    /** Which sections each of six lamps alike sees, and by whose waves it is lit. */
    private static void seesAre(String lampText, int[] wants) {
        for (int lamp = 0; lamp < 6; lamp++) {
            DarkOffice x = Checks.office(Checks.alike(lampText, 6));
            due("lamp(" + lamp + ", 3) of six " + lampText, x.lamp(lamp, 3), wants[lamp]);
            for (int section = 0; section < 6; section++) {
                DarkOffice y = Checks.office(Checks.alike(lampText, 6), section);
                y.minute(1);
                due("lamp(" + lamp + ", 2) of six " + lampText + ", one waves in " + section, y.lamp(lamp, 2),
                        wants[lamp] >> section & 1);
            }
        }
    }

    private static void wideSeesNoFurtherThanTheEnds() {
        says("a WIDE one also those of 1 less and 1 more");
        seesAre("w1", new int[] {0b000011, 0b000111, 0b001110, 0b011100, 0b111000, 0b110000});
        DarkOffice x = Checks.office("w1,w1");
        due("lamp(0, 3) of two", x.lamp(0, 3), 0b11);
        due("lamp(1, 3) of two", x.lamp(1, 3), 0b11);
    }

    private static void twinSeesNoFurtherThanTheEnd() {
        says("a TWIN also that of 1 more");
        seesAre("t1", new int[] {0b000011, 0b000110, 0b001100, 0b011000, 0b110000, 0b100000});
        DarkOffice x = Checks.office("t1,t1");
        due("lamp(0, 3) of two", x.lamp(0, 3), 0b11);
        due("lamp(1, 3) of two", x.lamp(1, 3), 0b10);
    }

    private static void tiredHoldsHalf() {
        says("a TIRED one its own, and HOLDS but half as long (rounded up)");
        int[] halves = {0, 1, 1, 2, 2, 3, 3, 4, 4, 5};
        for (int digit = 1; digit <= 9; digit++) {
            DarkOffice x = Checks.office("d" + digit + ",l1", 0);
            due("lamp(0, 1) of d" + digit, x.lamp(0, 1), halves[digit]);
            x.minute(1);
            for (int minute = 1; minute < halves[digit]; minute++) {
                due("d" + digit + " holds: minute(0)", x.minute(0), 0);
            }
            due("d" + digit + " is out: minute(0)", x.minute(0), 1);
        }
    }

    private static void hallSeesAll() {
        says("a HALL sees all.");
        seesAre("h1", new int[] {63, 63, 63, 63, 63, 63});
        DarkOffice x = Checks.office("l1,h1");
        due("lamp(1, 3) of two", x.lamp(1, 3), 3);
    }

    private static void letterCounts() {
        says("A letter comes behind THE PAGE, by its code: how many THE PAGE has.");
        DarkOffice x = new DarkOffice();
        long[] numbers = new long[31];
        for (int many = 1; many <= 20; many++) {
            due("letter " + many, x.letter(many * 6), many);
            due("count(8)", x.count(8), many);
            numbers[many - 1] = many * 6;
        }
        numbers[20 + 8] = 20;
        due("all letters, in order: digest()", x.digest(), Checks.digest(numbers));
    }

    private static void letterOutside() {
        says("OUTSIDE: code (1 to 126)");
        for (int code = -300; code <= 600; code++) {
            due("letter(" + code + ")", new DarkOffice().letter(code), code >= 1 && code <= 126 ? 1 : OUTSIDE);
        }
        for (int far : FAR) {
            due("letter(" + far + ")", new DarkOffice().letter(far), OUTSIDE);
            due("letter(" + (far + 108) + ")", new DarkOffice().letter(far + 108), far == -1 ? 1 : OUTSIDE);
        }
        DarkOffice full = page("l1,l1,l1,l1,l1,l1,l1");
        due("letter(0) of a full page", full.letter(0), OUTSIDE);
        due("letter(127) of a full page", full.letter(127), OUTSIDE);
    }

    private static void letterFull() {
        says("FULL: above 20.");
        DarkOffice x = page("l1,l1,l1,l1,l1,l1,l");
        due("letter 20", x.letter('1'), 20);
        due("letter 21", x.letter('1'), FULL);
        due("letter 21 again", x.letter('1'), FULL);
        due("letter 21 of the least code", x.letter(1), FULL);
        due("letter 21 of the greatest code", x.letter(126), FULL);
        due("count(8)", x.count(8), 20);
        x.blank();
        due("letter 1 behind blank()", x.letter('l'), 1);
    }

    private static void blankOfAnyLength() {
        says("THE PAGE is empty: how many letters it had.");
        for (int many = 0; many <= 20; many++) {
            DarkOffice x = page("zzzzzzzzzzzzzzzzzzzz".substring(0, many));
            due("blank() of " + many, x.blank(), many);
            due("count(8) then", x.count(8), 0);
            due("fault() then", x.fault(), 0);
            due("blank() then", x.blank(), 0);
        }
        DarkOffice x = Checks.office("l1,l1", 0);
        Checks.write(x, "l1,l1,l1");
        x.blank();
        due("office() of an empty page", x.office(), STATE);
        due("the office stands", x.count(0), 2);
        due("its people stay", x.count(2), 1);
    }

    private static void faultAtAnyPlace() {
        says("The place (from 0) of the first letter of THE PAGE that no OFFICE has there, behind those ahead of it");
        String text = "l1,w2,t3,d9,h4,l5";
        for (int place = 0; place <= 17; place++) {
            DarkOffice x = page(text.substring(0, place) + "?");
            due("fault() of ? at " + place, x.fault(), place);
            Checks.write(x, "?");
            due("fault() of ?? at " + place, x.fault(), place);
            DarkOffice good = page(text.substring(0, place) + "?" + text.substring(Math.min(17, place + 1)));
            due("fault() of a good letter behind ? at " + place, good.fault(), place);
        }
        due("fault() of a digit first", page("1l,l1").fault(), 0);
        due("fault() of a comma first", page(",").fault(), 0);
        due("fault() of a comma for a digit", page("l,").fault(), 1);
        due("fault() of a lamp without a comma", page("l1l1").fault(), 2);
        due("fault() of two commas", page("l1,,").fault(), 3);
        due("fault() of two digits", page("l10").fault(), 2);
        due("fault() of 0", page("l0").fault(), 1);
        due("fault() behind six lamps", page("l1,l1,l1,l1,l1,l1,").fault(), 17);
        due("fault() of a lamp behind six", page("l1,l1,l1,l1,l1,l1l1").fault(), 17);
        due("fault() of a full page", page("l1,l1,l1,l1,l1,l1,l1").fault(), 17);
    }

    private static void faultOfNone() {
        says("how many letters it has, if there is none.");
        String text = "l1,w2,t3,d9,h4,l5";
        for (int many = 0; many <= 17; many++) {
            DarkOffice x = page(text.substring(0, many));
            due("fault() of " + many + " letters", x.fault(), many);
            due("they stay", x.count(8), many);
        }
    }

    private static void officeGoneWithAllThatWas() {
        says("THE PAGE is read as THE OFFICE (another one is gone, with all that was): how many LAMPS");
        DarkOffice x = Checks.office("h1,h1,h1,h1,h1,h1", 0, 1, 2, 3);
        x.minute(15);
        x.minute(0);
        x.image();
        for (int told = 0; told < 8; told++) {
            x.book(told % 7, 0, false);
        }
        Checks.write(x, "l2,l1");
        due("office() of fewer lamps", x.office(), 2);
        int[] wants = {2, 0, 0, 0, 0, 0, 0, 0, 0, 2, 0};
        for (int what = 0; what <= 10; what++) {
            due("count(" + what + ")", x.count(what), wants[what]);
        }
        due("lamp(2, 0)", x.lamp(2, 0), UNKNOWN);
        due("lamp(0, 3)", x.lamp(0, 3), 1);
        due("about(0, 0)", x.about(0, 0), UNKNOWN);
        due("minute(1)", x.minute(1), OUTSIDE);
        due("restore()", x.restore(), STATE);
        due("person(0)", x.person(0), 0);
        due("he has never waved", x.about(0, 2), 0);
        due("he was never in the dark", x.about(0, 3), 0);
        due("nothing is told: waved(0, 6, 0)", x.waved(0, 6, 0), 64);
        due("book(0, 0, true)", x.book(0, 0, true), 1);
        Checks.write(x, "l2,l1,l3,l4,l5,l6");
        due("office() of more lamps", x.office(), 6);
        due("lamp(5, 1)", x.lamp(5, 1), 6);
    }

    private static void officeEmptiesThePage() {
        says("THE PAGE is empty then.");
        DarkOffice x = page("l1,l1,l1,l1,l1,l1");
        x.office();
        due("count(8)", x.count(8), 0);
        due("fault()", x.fault(), 0);
        due("office() again", x.office(), STATE);
        due("blank()", x.blank(), 0);
        for (int many = 1; many <= 20; many++) {
            due("letter " + many, x.letter('z'), many);
        }
    }

    private static void officeOfNone() {
        says("THE PAGE is empty then. STATE: it is none.");
        String text = "l1,w2,t3,d9,h4,l5,";
        for (int many = 0; many <= 18; many++) {
            boolean is = many >= 5 && many % 3 == 2;
            DarkOffice x = page(text.substring(0, many));
            due("office() of " + many + " letters", x.office(), is ? (many + 1) / 3 : STATE);
        }
        DarkOffice x = page("l1,l");
        due("office() of a half", x.office(), STATE);
        due("the half stays", x.count(8), 4);
        due("office() was read", x.count(9), 0);
        x.letter('7');
        due("office() of the whole", x.office(), 2);
        due("lamp(1, 1)", x.lamp(1, 1), 7);
    }

    private static void lampHolds() {
        says("1 for how many MINUTES it is lit, if one WAVES");
        for (char kind : "lwth".toCharArray()) {
            for (int digit = 1; digit <= 9; digit++) {
                DarkOffice x = Checks.office("l1," + kind + digit, 1);
                due("lamp(1, 1) of " + kind + digit, x.lamp(1, 1), digit);
                x.minute(1);
                due("lit for as many: lamp(1, 2) of " + kind + digit, x.lamp(1, 2), digit);
                x.minute(0);
                due("the same then: lamp(1, 1) of " + kind + digit, x.lamp(1, 1), digit);
            }
        }
        DarkOffice x = Checks.office("d9,d1");
        due("lamp(0, 1) of d9", x.lamp(0, 1), 5);
        due("lamp(1, 1) of d1", x.lamp(1, 1), 1);
    }

    private static void lampLitYet() {
        says("2 for how many it is lit yet (0: it is dark)");
        for (int digit = 1; digit <= 9; digit++) {
            DarkOffice x = Checks.office("l" + digit + ",l1", 0);
            due("l" + digit + " at first", x.lamp(0, 2), 0);
            x.minute(1);
            for (int left = digit; left >= 0; left--) {
                due("l" + digit + " lit yet", x.lamp(0, 2), left);
                x.minute(0);
            }
            due("l" + digit + " stays dark", x.lamp(0, 2), 0);
        }
    }

    private static void lampSeesAsBits() {
        says("3 which SECTIONS it sees, as bits");
        for (int many = 2; many <= 6; many++) {
            DarkOffice x = Checks.office(Checks.alike("h1", many));
            DarkOffice y = Checks.office(Checks.alike("l1", many));
            due("all of " + many, x.lamp(many - 1, 3), (1 << many) - 1);
            due("the first of " + many, y.lamp(0, 3), 1);
            due("the last of " + many, y.lamp(many - 1, 3), 1 << many - 1);
        }
    }

    private static void lampPeopleAsBits() {
        says("4 who of PEOPLE sits in its SECTION, as bits");
        DarkOffice x = Checks.office("l1,l1");
        int[] wants = {0b0000, 0b0001, 0b0011, 0b0111, 0b1111};
        for (int many = 0; many <= 4; many++) {
            due(many + " in section 1", x.lamp(1, 4), wants[many]);
            due("nobody in section 0", x.lamp(0, 4), 0);
            x.person(1);
        }
        x.move(3, 0);
        due("the last went", x.lamp(1, 4), 0b0111);
        due("the last came", x.lamp(0, 4), 0b1000);
    }

    private static void lampSeenByHowMany() {
        says("5 how many LAMPS see its SECTION.");
        DarkOffice halls = Checks.office("h1,h1,h1,h1,h1,h1");
        DarkOffice lamps = Checks.office("l1,l1,l1,l1,l1,l1");
        DarkOffice wide = Checks.office("w1,w1,w1,w1,w1,w1");
        for (int section = 0; section < 6; section++) {
            due("lamp(" + section + ", 5) of halls", halls.lamp(section, 5), 6);
            due("lamp(" + section + ", 5) of lamps", lamps.lamp(section, 5), 1);
            due("lamp(" + section + ", 5) of wide ones", wide.lamp(section, 5), section % 5 == 0 ? 2 : 3);
        }
        DarkOffice one = Checks.office("h1,l1,l1,l1,l1,l1");
        due("lamp(0, 5) of the hall: itself alone", one.lamp(0, 5), 1);
        due("lamp(5, 5): itself and the hall", one.lamp(5, 5), 2);
    }

    private static void lampRefused() {
        says("5 how many LAMPS see its SECTION. UNKNOWN; OUTSIDE.");
        for (int many = 2; many <= 6; many++) {
            DarkOffice x = Checks.office(Checks.alike("l1", many));
            for (int what = 0; what <= 5; what++) {
                due("lamp(-1, " + what + ")", x.lamp(-1, what), UNKNOWN);
                due("lamp(" + many + ", " + what + ")", x.lamp(many, what), UNKNOWN);
            }
            due("lamp(" + many + ", 6)", x.lamp(many, 6), UNKNOWN);
            due("lamp(0, -1)", x.lamp(0, -1), OUTSIDE);
            due("lamp(" + (many - 1) + ", 6)", x.lamp(many - 1, 6), OUTSIDE);
        }
        DarkOffice x = Checks.office("l1,l1");
        for (int far : FAR) {
            due("lamp(" + far + ", 0)", x.lamp(far, 0), UNKNOWN);
            due("lamp(" + far + ", " + far + ")", x.lamp(far, far), UNKNOWN);
            due("lamp(0, " + far + ")", x.lamp(0, far), OUTSIDE);
        }
    }

    private static void asItsOwnNumber() {
        says("A LAMP taken as a KIND: its own number, not that of the KIND");
        DarkOffice x = Checks.office("h1,d1,t1,w1,l1,h1");
        int[] kinds = {4, 3, 2, 1, 0, 4};
        for (int lamp = 0; lamp < 6; lamp++) {
            due("as(" + lamp + ", " + kinds[lamp] + ")", x.as(lamp, kinds[lamp]), lamp);
        }
    }

    private static void allAreLamps() {
        says("All are LAMPS; a HALL is WIDE, too.");
        DarkOffice x = Checks.office("h1,d1,t1,w1,l1,h1");
        for (int lamp = 0; lamp < 6; lamp++) {
            due("as(" + lamp + ", 0)", x.as(lamp, 0), lamp);
        }
        due("as(0, 1) of a hall", x.as(0, 1), 0);
        due("as(5, 1) of a hall", x.as(5, 1), 5);
        due("as(3, 4) of a wide one", x.as(3, 4), NONE);
    }

    private static void asNone() {
        says("NONE: it is none such (the cast fails).");
        DarkOffice x = Checks.office("l1,w1,t1,d1,h1,l1");
        int[][] none = {{1, 2, 3, 4}, {2, 3, 4}, {1, 3, 4}, {1, 2, 4}, {2, 3}};
        for (int lamp = 0; lamp < 5; lamp++) {
            for (int kind : none[lamp]) {
                due("as(" + lamp + ", " + kind + ")", x.as(lamp, kind), NONE);
            }
        }
    }

    private static void asRefused() {
        says("(the cast fails). UNKNOWN; OUTSIDE.");
        for (int many = 2; many <= 6; many++) {
            DarkOffice x = Checks.office(Checks.alike("h1", many));
            for (int kind = -1; kind <= 5; kind++) {
                due("as(-1, " + kind + ")", x.as(-1, kind), UNKNOWN);
                due("as(" + many + ", " + kind + ")", x.as(many, kind), UNKNOWN);
            }
            due("as(0, -1)", x.as(0, -1), OUTSIDE);
            due("as(" + (many - 1) + ", 5)", x.as(many - 1, 5), OUTSIDE);
        }
        DarkOffice x = Checks.office("l1,l1");
        for (int far : FAR) {
            due("as(" + far + ", 0)", x.as(far, 0), UNKNOWN);
            due("as(0, " + far + ")", x.as(0, far), OUTSIDE);
        }
    }
}
