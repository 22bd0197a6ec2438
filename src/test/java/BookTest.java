/** Promises 15 to 19: book, forget, waved, look, nights. */
public final class BookTest {
    private static final Checks CHECKS = new Checks("BookTest");
    private static final int NONE = DarkOffice.NONE;

    public static void main(String[] args) {
        book();
        forget();
        wavedWithoutBook();
        wavedByTheBook();
        wavedFromWhenItIsAsked();
        wavedOfNow();
        wavedRefused();
        look();
        lookByTheBook();
        lookRefused();
        nights();
        nightsOfNobody();
        nightsRefused();
        nothingChanges();
        CHECKS.end();
    }

    private static void due(String call, long got, long want) {
        CHECKS.due(call, got, want);
    }

    private static void book() {
        DarkOffice x = Checks.office("l1,l1");
        due("book(-1, 0, true)", x.book(-1, 0, true), DarkOffice.OUTSIDE);
        due("book(7, 0, true)", x.book(7, 0, true), DarkOffice.OUTSIDE);
        due("book(7, 2, true)", x.book(7, 2, true), DarkOffice.OUTSIDE);
        due("book(MIN, 0, true)", x.book(Integer.MIN_VALUE, 0, true), DarkOffice.OUTSIDE);
        due("book(0, 2, true)", x.book(0, 2, true), DarkOffice.UNKNOWN);
        due("book(0, -1, true)", x.book(0, -1, true), DarkOffice.UNKNOWN);
        due("nothing is told", x.count(7), 0);
        for (int told = 1; told <= 7; told++) {
            due("book " + told, x.book(told - 1, 0, true), told);
        }
        due("book 8, told before", x.book(0, 0, true), 8);
        due("book 9", x.book(0, 0, true), DarkOffice.FULL);
        due("book 9 of none", x.book(0, 2, true), DarkOffice.UNKNOWN);
        due("book 9 of no minute", x.book(7, 0, true), DarkOffice.OUTSIDE);
        due("count(7)", x.count(7), 8);
    }

    private static void forget() {
        DarkOffice x = Checks.office("l1,l1", 0);
        due("forget() of none", x.forget(), 0);
        for (int minute = 0; minute <= 6; minute++) {
            x.book(minute, 1, true);
        }
        due("told: waved(0, 6, 0)", x.waved(0, 6, 0), 0);
        due("forget()", x.forget(), 7);
        due("forgotten: waved(0, 6, 0)", x.waved(0, 6, 0), 64);
        for (int minute = 0; minute <= 6; minute++) {
            x.book(minute, 0, false);
        }
        due("told: waved(0, 6, 0)", x.waved(0, 6, 0), 1);
        due("forget()", x.forget(), 7);
        due("forgotten: waved(0, 6, 0)", x.waved(0, 6, 0), 64);
        due("forgotten: book", x.book(1, 1, true), 1);
    }

    private static void wavedIs(String when, DarkOffice x, int minutes, int many, int least) {
        due(when + ": waved(0, " + minutes + ", 0)", x.waved(0, minutes, 0), many);
        due(when + ": waved(0, " + minutes + ", 1)", x.waved(0, minutes, 1), least);
    }

    private static void wavedWithoutBook() {
        DarkOffice x = Checks.office("l1,l2", 0);
        for (int minutes = 1; minutes <= 6; minutes++) {
            wavedIs("no book", x, minutes, 1 << minutes, 0);
        }
    }

    private static void wavedByTheBook() {
        DarkOffice x = Checks.office("l1,l2", 0, 1);
        x.book(1, 0, true);
        wavedIs("lit behind 1", x, 1, 1, 1);
        wavedIs("lit behind 1", x, 3, 4, 1);
        x.book(3, 0, false);
        wavedIs("what is told of more minutes does not matter", x, 2, 2, 1);
        wavedIs("dark behind 3", x, 3, 2, 1);
        x.forget();
        x.book(2, 0, true);
        wavedIs("lit behind 2", x, 2, 2, 2);
        x.book(6, 0, true);
        wavedIs("lit behind 2 and 6", x, 6, 16, 34);
        x.forget();
        x.book(1, 0, true);
        x.book(1, 0, false);
        wavedIs("both lit and dark", x, 1, 0, NONE);
        x.forget();
        x.book(1, 1, true);
        wavedIs("not his lamp", x, 1, 0, NONE);
        due("his lamp", x.waved(1, 2, 0), 2);
        x.book(2, 1, false);
        due("it holds two", x.waved(1, 2, 0), 0);
        x.move(0, 1);
        wavedIs("where he went", x, 1, 1, 1);
    }

    private static void wavedFromWhenItIsAsked() {
        DarkOffice x = Checks.office("l2,l2", 0);
        x.book(1, 0, false);
        wavedIs("dark", x, 1, 1, 0);
        x.minute(1);
        wavedIs("lit for two", x, 1, 0, NONE);
        x.minute(0);
        wavedIs("lit for one", x, 1, 1, 0);
        wavedIs("lit for one", x, 2, 2, 0);
    }

    private static void wavedOfNow() {
        DarkOffice x = Checks.office("l2,l2", 0);
        x.book(0, 0, true);
        wavedIs("now it is dark", x, 1, 0, NONE);
        due("now it is dark: look(0, 1)", x.look(0, 1), NONE);
        x.minute(1);
        wavedIs("now it is lit", x, 1, 2, 0);
        x.book(0, 0, false);
        wavedIs("now it is lit, and not", x, 6, 0, NONE);
    }

    private static void wavedRefused() {
        DarkOffice x = Checks.office("l2,l2", 0);
        due("waved(1, 1, 0)", x.waved(1, 1, 0), DarkOffice.UNKNOWN);
        due("waved(-1, 0, 2)", x.waved(-1, 0, 2), DarkOffice.UNKNOWN);
        due("waved(0, 0, 0)", x.waved(0, 0, 0), DarkOffice.OUTSIDE);
        due("waved(0, 7, 0)", x.waved(0, 7, 0), DarkOffice.OUTSIDE);
        due("waved(0, MIN, 0)", x.waved(0, Integer.MIN_VALUE, 0), DarkOffice.OUTSIDE);
        due("waved(0, MAX, 0)", x.waved(0, Integer.MAX_VALUE, 0), DarkOffice.OUTSIDE);
        due("waved(0, 1, 2)", x.waved(0, 1, 2), DarkOffice.OUTSIDE);
        due("waved(0, 1, -1)", x.waved(0, 1, -1), DarkOffice.OUTSIDE);
    }

    private static void look() {
        DarkOffice x = Checks.office("l1,l2,l1", 1);
        due("his own: look(0, 1)", x.look(0, 1), 1);
        due("his own: look(0, 2)", x.look(0, 2), 1);
        x = Checks.office("l1,h1", 0, 1);
        due("of like ones the least: look(0, 1)", x.look(0, 1), 0);
        due("only one sees him: look(1, 1)", x.look(1, 1), 1);
        // Of four ways three have the hall lit at the end, two the lamp.
        x = Checks.office("h2,l1", 1);
        due("the shorter one: look(0, 2)", x.look(0, 2), 1);
        due("one minute: look(0, 1)", x.look(0, 1), 0);
        x = Checks.office("l9,l9", 1);
        x.minute(1);
        due("nothing is to be seen: look(0, 3)", x.look(0, 3), 0);
    }

    private static void lookByTheBook() {
        DarkOffice x = Checks.office("h2,l1", 1);
        x.book(2, 1, false);
        // Ways 0 and 1 are left: the hall tells them apart.
        due("dark behind 2: look(0, 2)", x.look(0, 2), 0);
        due("dark behind 2: look(0, 1)", x.look(0, 1), 0);
        due("dark behind 2: look(0, 3)", x.look(0, 3), 0);
        x.book(2, 0, true);
        due("one way: look(0, 2)", x.look(0, 2), 0);
        x.book(1, 0, false);
        due("no way: look(0, 2)", x.look(0, 2), NONE);
        due("no way: look(0, 6)", x.look(0, 6), NONE);
        due("one way: look(0, 1)", x.look(0, 1), 0);
    }

    private static void lookRefused() {
        DarkOffice x = Checks.office("l2,l2", 0);
        due("look(1, 1)", x.look(1, 1), DarkOffice.UNKNOWN);
        due("look(-1, 0)", x.look(-1, 0), DarkOffice.UNKNOWN);
        due("look(0, 0)", x.look(0, 0), DarkOffice.OUTSIDE);
        due("look(0, 7)", x.look(0, 7), DarkOffice.OUTSIDE);
        due("look(0, MAX)", x.look(0, Integer.MAX_VALUE), DarkOffice.OUTSIDE);
    }

    private static void nightsAre(String when, DarkOffice x, int minutes, int seed, int... wants) {
        for (int what = 0; what <= 2; what++) {
            String call = when + ": nights(" + minutes + ", " + seed + ", " + what + ")";
            due(call, x.nights(minutes, seed, what), wants[what]);
        }
    }

    private static void nights() {
        // The draw of seed 0 is 0 and leaves 12345; that of seed 1 is 16838, its rest 2, and leaves 1103527590.
        nightsAre("he waves", Checks.office("l1,l1", 0), 1, 0, 0, 1, 12345);
        nightsAre("he does not", Checks.office("l1,l1", 0), 1, 1, 1, 0, 1103527590);
        // The second draw behind seed 0: 1103515245 * 12345 + 12345 leaves 1406932606, 21468 by 65536, its rest 0.
        nightsAre("both wave", Checks.office("l1,l1", 0, 1), 1, 0, 0, 2, 1406932606);
        nightsAre("he waves twice", Checks.office("l1,l1", 0), 2, 0, 0, 1, 1406932606);
        // The third draw is 9981, its rest 3, behind 654583775.
        nightsAre("then not", Checks.office("l1,l1", 0), 3, 0, 1, 0, 654583775);
        nightsAre("it holds", Checks.office("l2,l1", 0), 3, 0, 0, 1, 654583775);
        nightsAre("the greatest seed", Checks.office("l1,l1", 0), 1, Integer.MAX_VALUE, 1, 0, 1043980748);
        DarkOffice x = Checks.office("l3,l3", 0);
        x.minute(1);
        nightsAre("from now", x, 1, 1, 0, 1, 1103527590);
    }

    private static void nightsOfNobody() {
        DarkOffice x = Checks.office("l9,l9");
        nightsAre("nobody", x, 60, 7, 0, 0, 7);
        nightsAre("nobody", x, 1, 0, 0, 0, 0);
    }

    private static void nightsRefused() {
        DarkOffice x = Checks.office("l1,l1", 0);
        due("nights(0, 0, 0)", x.nights(0, 0, 0), DarkOffice.OUTSIDE);
        due("nights(61, 0, 0)", x.nights(61, 0, 0), DarkOffice.OUTSIDE);
        due("nights(MIN, 0, 0)", x.nights(Integer.MIN_VALUE, 0, 0), DarkOffice.OUTSIDE);
        due("nights(1, -1, 0)", x.nights(1, -1, 0), DarkOffice.OUTSIDE);
        due("nights(1, MIN, 0)", x.nights(1, Integer.MIN_VALUE, 0), DarkOffice.OUTSIDE);
        due("nights(1, 0, 3)", x.nights(1, 0, 3), DarkOffice.OUTSIDE);
        due("nights(1, 0, -1)", x.nights(1, 0, -1), DarkOffice.OUTSIDE);
        due("nights(60, 0, 2) of no office", new DarkOffice().nights(60, 0, 2), DarkOffice.STATE);
    }

    private static void nothingChanges() {
        DarkOffice x = Checks.office("l2,w3,t2", 0, 1, 2);
        x.minute(5);
        x.book(2, 1, true);
        long before = x.digest();
        x.waved(0, 6, 0);
        x.look(1, 6);
        x.nights(60, 99, 0);
        due("digest() behind questions", x.digest(), before);
    }
}
