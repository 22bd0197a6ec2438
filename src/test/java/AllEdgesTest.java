import java.math.BigInteger;

/** Images, counts and promises 20 to 23: each sentence that names a boundary case, in a test of its own. */
public final class AllEdgesTest {
    private static final Checks CHECKS = new Checks("AllEdgesTest");
    private static final int NONE = DarkOffice.NONE;
    private static final int UNKNOWN = DarkOffice.UNKNOWN;
    private static final int OUTSIDE = DarkOffice.OUTSIDE;
    private static final int STATE = DarkOffice.STATE;

    public static void main(String[] args) {
        imageKeepsLamps();
        imageKeepsHowManyPeople();
        imageKeepsWhatPeopleDid();
        imageKeepsTheBook();
        imageKeepsNothingElse();
        oneImageTheLatest();
        imageOfNoOffice();
        restoreMinutes();
        restoreOfNone();
        restoreInAnotherOffice();
        countFromNothing();
        countOfLamps();
        countOfPeople();
        countOfMinutes();
        countOfTheBookAndThePage();
        countOfOffices();
        countOutside();
        digestWraps();
        digestOfLamps();
        digestOfPeople();
        digestWithAnOffice();
        digestOfThePage();
        lastOf512Calls();
        CHECKS.end();
    }

    private static void says(String words) {
        CHECKS.says(words);
    }

    private static void due(String call, long got, long want) {
        CHECKS.due(call, got, want);
    }

    private static void imageKeepsLamps() {
        says("An IMAGE keeps how long each LAMP is lit yet");
        for (int left = 0; left <= 9; left++) {
            DarkOffice x = Checks.office("l9,l9,l9,l9,l9,l9", 5);
            x.minute(left > 0 ? 1 : 0);
            for (int minute = 9; minute > left && left > 0; minute--) {
                x.minute(0);
            }
            x.image();
            x.minute(left == 9 ? 0 : 1);
            x.restore();
            due("lit for " + left + ": lamp(5, 2)", x.lamp(5, 2), left);
            due("lit for " + left + ": lamp(0, 2)", x.lamp(0, 2), 0);
        }
    }

    private static void imageKeepsHowManyPeople() {
        says("how many PEOPLE there are (those that come since are gone by restore())");
        for (int many = 0; many <= 4; many++) {
            DarkOffice x = Checks.office("l1,l1", new int[many]);
            x.image();
            for (int person = many; person < 4; person++) {
                x.person(1);
            }
            due("all came", x.count(2), 4);
            x.minute(15);
            x.restore();
            due("restored: count(2)", x.count(2), many);
            due("restored: lamp(1, 4)", x.lamp(1, 4), 0);
            due("about(" + many + ", 0)", x.about(many, 0), UNKNOWN);
            due("minute(" + (1 << many) + ")", x.minute(1 << many), OUTSIDE);
            if (many < 4) {
                due("one comes again", x.person(1), many);
                due("he has not waved", x.about(many, 2), 0);
                due("he was not in the dark", x.about(many, 3), 0);
            }
        }
    }

    private static void imageKeepsWhatPeopleDid() {
        says("their SECTIONS, WAVES, how often in the DARK, MINUTES, the BOOK.");
        DarkOffice x = Checks.office("l1,l1,l1,l1,l1", 0, 1, 2, 3);
        x.minute(0b0001);
        x.minute(0b0011);
        x.minute(0b0111);
        x.image();
        for (int person = 0; person < 4; person++) {
            x.move(person, 4);
        }
        x.minute(0);
        x.minute(15);
        due("restore()", x.restore(), 3);
        for (int person = 0; person < 4; person++) {
            due("about(" + person + ", 0)", x.about(person, 0), person);
            due("about(" + person + ", 2)", x.about(person, 2), 3 - person);
            due("about(" + person + ", 3)", x.about(person, 3), person);
        }
        due("count(4)", x.count(4), 3);
    }

    private static void imageKeepsTheBook() {
        says("MINUTES, the BOOK. Refusals");
        for (int much = 0; much <= 8; much++) {
            DarkOffice x = Checks.office("l1,l1", 0);
            for (int told = 0; told < much; told++) {
                x.book(told % 7, 0, false);
            }
            x.image();
            x.forget();
            x.book(6, 1, true);
            x.restore();
            due("restored: count(7)", x.count(7), much);
            due("one more: book(0, 0, false)", x.book(0, 0, false), much < 8 ? much + 1 : DarkOffice.FULL);
        }
        for (int minute = 0; minute <= 6; minute++) {
            bookIsRestored(minute, true);
            bookIsRestored(minute, false);
        }
    }

    /** One thing alone is told and kept; the contrary is told then. */
    private static void bookIsRestored(int minute, boolean lit) {
        DarkOffice x = Checks.office("l1,l1", 0);
        x.book(minute, 0, lit);
        x.image();
        x.forget();
        x.book(minute, 0, !lit);
        x.restore();
        String call = "told of " + minute + ", " + lit + ": waved(0, 6, ";
        if (minute > 0) {
            due(call + "0)", x.waved(0, 6, 0), 32);
            due(call + "1)", x.waved(0, 6, 1), lit ? 1 << minute - 1 : 0);
            return;
        }
        due(call + "0), dark now", x.waved(0, 6, 0), lit ? 0 : 64);
        due(call + "1), dark now", x.waved(0, 6, 1), lit ? NONE : 0);
        x.minute(1);
        due(call + "0), lit now", x.waved(0, 6, 0), lit ? 64 : 0);
        due(call + "1), lit now", x.waved(0, 6, 1), lit ? 0 : NONE);
    }

    private static void imageKeepsNothingElse() {
        says("An IMAGE is kept (one; the latest)");
        DarkOffice x = Checks.office("h1,h1", 0);
        Checks.write(x, "l1,l");
        x.image();
        x.letter('1');
        x.round(0, 0);
        x.restore();
        due("the page goes on: count(8)", x.count(8), 5);
        due("offices read: count(9)", x.count(9), 1);
        due("rounds done: count(10)", x.count(10), 1);
        due("lamps stay: count(0)", x.count(0), 2);
    }

    private static void oneImageTheLatest() {
        says("An IMAGE is kept (one; the latest): how many MINUTES there were.");
        DarkOffice x = Checks.office("l9,l9", 0);
        due("image() of no minute", x.image(), 0);
        for (int minute = 1; minute <= 3; minute++) {
            x.minute(1);
            due("image() behind " + minute, x.image(), minute);
        }
        x.minute(0);
        due("restore() of the latest", x.restore(), 3);
        due("restore() again", x.restore(), 3);
        due("image() of the restored", x.image(), 3);
        x.person(1);
        due("it stays what it was", x.restore(), 3);
        due("count(2)", x.count(2), 1);
    }

    private static void imageOfNoOffice() {
        says("how many MINUTES there were. STATE: no OFFICE.");
        DarkOffice x = new DarkOffice();
        due("image()", x.image(), STATE);
        Checks.write(x, "l1,l1");
        due("image() of a page", x.image(), STATE);
        x.office();
        due("no image was kept: restore()", x.restore(), STATE);
        due("image() of an office", x.image(), 0);
    }

    private static void restoreMinutes() {
        says("It goes on from the IMAGE: how many MINUTES there were.");
        DarkOffice x = Checks.office("l2,l1", 0);
        x.image();
        x.minute(1);
        x.minute(1);
        due("restore() of no minute", x.restore(), 0);
        due("count(4)", x.count(4), 0);
        due("it goes on: minute(0)", x.minute(0), 1);
        due("count(4)", x.count(4), 1);
        due("count(5)", x.count(5), 0);
        due("count(6)", x.count(6), 1);
    }

    private static void restoreOfNone() {
        says("STATE: none was kept");
        due("of no office", new DarkOffice().restore(), STATE);
        DarkOffice x = Checks.office("l2,l1", 0);
        x.minute(1);
        due("of an office", x.restore(), STATE);
        due("minutes stay", x.count(4), 1);
        due("people stay", x.count(2), 1);
        due("lamps stay lit", x.lamp(0, 2), 2);
    }

    private static void restoreInAnotherOffice() {
        says("STATE: none was kept, or there is another OFFICE since.");
        DarkOffice x = Checks.office("l2,l1", 0);
        x.image();
        Checks.write(x, "l2");
        due("no office since: office()", x.office(), STATE);
        due("restore()", x.restore(), 0);
        Checks.write(x, ",l1");
        due("another one, of the like text: office()", x.office(), 2);
        due("restore()", x.restore(), STATE);
        due("nobody is there", x.count(2), 0);
        x.person(1);
        x.minute(0);
        due("image() there", x.image(), 1);
        x.minute(0);
        due("restore() there", x.restore(), 1);
        due("about(0, 0)", x.about(0, 0), 1);
    }

    private static void countFromNothing() {
        says("`int count(int what)`: How many: 0 LAMPS");
        DarkOffice none = new DarkOffice();
        DarkOffice x = Checks.office("l1,l1");
        int[] wants = {2, 0, 0, 0, 0, 0, 0, 0, 0, 1, 0};
        for (int what = 0; what <= 10; what++) {
            due("count(" + what + ") of no office", none.count(what), 0);
            due("count(" + what + ") of a new one", x.count(what), wants[what]);
        }
    }

    private static void countOfLamps() {
        says("How many: 0 LAMPS, 1 that are lit");
        for (int many = 2; many <= 6; many++) {
            DarkOffice x = Checks.office(Checks.alike("h1", many), 0);
            due("count(0)", x.count(0), many);
            due("none is lit: count(1)", x.count(1), 0);
            x.minute(1);
            due("all are lit for one: count(1)", x.count(1), many);
            x.minute(0);
            due("all went out: count(1)", x.count(1), 0);
        }
    }

    private static void countOfPeople() {
        says("2 PEOPLE, 3 who sit in light");
        for (int many = 0; many <= 4; many++) {
            DarkOffice x = Checks.office("h1,l1", new int[many]);
            due("count(2)", x.count(2), many);
            due("nobody in light: count(3)", x.count(3), 0);
            x.minute((1 << many) - 1);
            due("all in light: count(3)", x.count(3), many);
            if (many > 0) {
                x.move(0, 1);
                due("he went into the dark: count(3)", x.count(3), many - 1);
            }
        }
    }

    private static void countOfMinutes() {
        says("4 MINUTES, 5 WAVES of all, 6 how often all sat in the DARK");
        DarkOffice x = Checks.office("l1,l1", 0, 0, 1, 1);
        x.minute(0);
        due("count(4)", x.count(4), 1);
        due("nobody waved: count(5)", x.count(5), 0);
        due("all in the dark: count(6)", x.count(6), 4);
        x.minute(15);
        due("all waved: count(5)", x.count(5), 4);
        due("nobody in the dark: count(6)", x.count(6), 4);
        x.minute(1);
        due("count(4)", x.count(4), 3);
        due("one waved: count(5)", x.count(5), 5);
        due("two in the dark: count(6)", x.count(6), 6);
    }

    private static void countOfTheBookAndThePage() {
        says("7 what the BOOK tells, 8 letters of THE PAGE");
        DarkOffice x = Checks.office("l1,l1");
        for (int much = 1; much <= 21; much++) {
            x.book(0, 0, true);
            x.letter('z');
            due("count(7) of " + much, x.count(7), Math.min(8, much));
            due("count(8) of " + much, x.count(8), Math.min(20, much));
        }
        x.forget();
        x.blank();
        due("count(7) of none", x.count(7), 0);
        due("count(8) of none", x.count(8), 0);
    }

    private static void countOfOffices() {
        says("9 how often an OFFICE was read, 10 how often round() was done.");
        DarkOffice x = new DarkOffice();
        for (int time = 0; time < 10; time++) {
            due("count(9)", x.count(9), time);
            due("count(10)", x.count(10), 2 * time);
            Checks.write(x, "h1,h1");
            x.office();
            due("none again: office()", x.office(), STATE);
            x.round(1, 0);
            x.round(0, 16);
        }
        x.round(1, 0);
        due("count(9) of 10", x.count(9), 10);
        due("count(10) of 20, and a refusal", x.count(10), 20);
    }

    private static void countOutside() {
        says("10 how often round() was done. OUTSIDE.");
        DarkOffice none = new DarkOffice();
        DarkOffice x = Checks.office("l1,l1", 0);
        for (int what : new int[] {Integer.MIN_VALUE, -256, -2, -1, 11, 12, 256, Integer.MAX_VALUE}) {
            due("count(" + what + ")", x.count(what), OUTSIDE);
            due("count(" + what + ") of no office", none.count(what), OUTSIDE);
        }
    }

    private static void digestWraps() {
        says("31 times h, and it (as longs, wrapping)");
        DarkOffice x = new DarkOffice();
        BigInteger h = BigInteger.valueOf(911);
        for (int place = 0; place < 20; place++) {
            x.letter(126);
            h = h.multiply(BigInteger.valueOf(31)).add(BigInteger.valueOf(126));
        }
        for (int what = 0; what <= 10; what++) {
            h = h.multiply(BigInteger.valueOf(31)).add(BigInteger.valueOf(what == 8 ? 20 : 0));
        }
        due("a full page: digest()", x.digest(), h.longValue());
        due("it does not fit a long", h.bitLength() > 63 ? 1 : 0, 1);
    }

    private static void digestOfLamps() {
        says("of each LAMP what lamp() tells for 0 to 5");
        due("none", new DarkOffice().digest(), Checks.digest(0, 0, 0, 0, 0, 0, 0, 0, 0, 0, 0));
        due("two", Checks.office("l1,h9").digest(), Checks.digest(
                0, 1, 0, 1, 0, 2,
                4, 9, 0, 3, 0, 1,
                0, 0, 0, 0, 2,
                2, 0, 0, 0, 0, 0, 0, 0, 0, 1, 0));
        due("six", Checks.office("l1,w2,t3,d9,h5,l6").digest(), Checks.digest(
                0, 1, 0, 1, 0, 3,
                1, 2, 0, 7, 0, 2,
                2, 3, 0, 12, 0, 3,
                3, 5, 0, 8, 0, 3,
                4, 5, 0, 63, 0, 1,
                0, 6, 0, 32, 0, 2,
                0, 0, 0, 0, 3,
                6, 0, 0, 0, 0, 0, 0, 0, 0, 1, 0));
    }

    private static void digestOfPeople() {
        says("of each PERSON what about() tells for 0 to 3, WAVED of 4 MINUTES for 0 and 1, LOOK of 3");
        DarkOffice x = Checks.office("l1,l1", 1);
        x.book(1, 0, true);
        // Nobody lights lamp 0 from section 1: no way, no least, nowhere to look.
        due("no way", x.digest(), Checks.digest(
                0, 1, 0, 1, 0, 1,
                0, 1, 0, 2, 1, 1,
                1, 0, 0, 0, 0, NONE, NONE,
                2, 1, 1, 0, 1,
                2, 0, 1, 0, 0, 0, 0, 1, 0, 1, 0));
        DarkOffice four = Checks.office("l1,l1", 0, 1, 0, 1);
        four.minute(0b1000);
        due("four", four.digest(), Checks.digest(
                0, 1, 0, 1, 5, 1,
                0, 1, 1, 2, 10, 1,
                0, 0, 0, 1, 16, 0, 0,
                1, 1, 0, 0, 16, 0, 1,
                0, 0, 0, 1, 16, 0, 0,
                1, 1, 1, 0, 16, 0, 1,
                4, 3, 3, 0, 1,
                2, 1, 4, 2, 1, 1, 2, 0, 0, 1, 0));
        DarkOffice lit = Checks.office("h2,l1", 1);
        lit.book(2, 1, true);
        lit.book(4, 1, true);
        // Both are lit for sure behind 2 and 4; behind 3 the hall is, and lamp 1 tells. Waves in 2 and 4 are 10.
        due("one lamp tells behind 3 alone", lit.digest(), Checks.digest(
                4, 2, 0, 3, 0, 1,
                0, 1, 0, 2, 1, 2,
                1, 0, 0, 0, 4, 10, 1,
                2, 1, 1, 1, 2,
                2, 0, 1, 0, 0, 0, 0, 2, 0, 1, 0));
    }

    private static void digestWithAnOffice() {
        says("with an OFFICE (all up to the next semicolon) what least() tells of 2 MINUTES for 0, 10 and 11, "
                + "TOGETHER for 0 and 1");
        DarkOffice x = new DarkOffice();
        Checks.write(x, "t2,l1");
        due("none yet", x.digest(), Checks.digest('t', '2', ',', 'l', '1', 0, 0, 0, 0, 0, 0, 0, 0, 5, 0, 0));
        x.office();
        x.person(0);
        // The twin lights section 0 for two minutes: a wave in the first will do.
        due("one", x.digest(), Checks.digest(
                2, 2, 0, 3, 1, 1,
                0, 1, 0, 2, 0, 2,
                0, 0, 0, 0, 16, 0, 0,
                1, 1, 0, 1, 2,
                2, 0, 1, 0, 0, 0, 0, 0, 0, 1, 0));
        x.minute(1);
        // Now it goes out in the second minute: of one there would be no wave, of three one in the second as well.
        due("lit", x.digest(), Checks.digest(
                2, 2, 2, 3, 1, 1,
                0, 1, 0, 2, 0, 2,
                0, 1, 1, 0, 16, 0, 0,
                1, 0, 1, 1, 2,
                2, 1, 1, 1, 1, 1, 0, 0, 0, 1, 0));
        DarkOffice each = Checks.office("l1,l1", 0);
        due("a wave each minute", each.digest(), Checks.digest(
                0, 1, 0, 1, 1, 1,
                0, 1, 0, 2, 0, 1,
                0, 0, 0, 0, 16, 0, 0,
                2, 1, 1, 0, 1,
                2, 0, 1, 0, 0, 0, 0, 0, 0, 1, 0));
    }

    private static void digestOfThePage() {
        says("letters of THE PAGE; what count() tells for 0 to 10.");
        DarkOffice x = new DarkOffice();
        x.letter(1);
        x.letter(126);
        due("two letters", x.digest(), Checks.digest(1, 126, 0, 0, 0, 0, 0, 0, 0, 0, 2, 0, 0));
        x.blank();
        due("none, of what was there", x.digest(), Checks.digest(0, 0, 0, 0, 0, 0, 0, 0, 0, 0, 0));
        x.letter(126);
        due("one letter", x.digest(), Checks.digest(126, 0, 0, 0, 0, 0, 0, 0, 0, 1, 0, 0));
    }

    private static void lastOf512Calls() {
        says("An object is used for at most 512 calls after it has been made");
        // Ten calls make the office of four people; 501 minutes and the question are the rest.
        DarkOffice waving = Checks.office("l1,l1", 0, 0, 1, 1);
        DarkOffice dark = Checks.office("l1,l1", 0, 0, 1, 1);
        DarkOffice each = Checks.office("l1,l1", 0, 0, 1, 1);
        DarkOffice long501 = Checks.office("l1,l1", 0, 0, 1, 1);
        for (int minute = 1; minute <= 501; minute++) {
            due("all wave: minute(15), minute " + minute, waving.minute(15), 0);
            due("nobody waves: minute(0), minute " + minute, dark.minute(0), 4);
            each.minute(8);
            long501.minute(0);
        }
        due("call 512: count(5)", waving.count(5), 2004);
        due("call 512: count(6)", dark.count(6), 2004);
        due("call 512: image()", long501.image(), 501);
        due("call 512: about(3, 2)", each.about(3, 2), 501);
        DarkOffice offices = new DarkOffice();
        for (int time = 1; time <= 85; time++) {
            Checks.write(offices, "l1,l1");
            offices.office();
        }
        due("call 511: count(9)", offices.count(9), 85);
        due("call 512: count(0)", offices.count(0), 2);
    }
}
