/** Promises 20 to 23: image, restore, count, digest. */
public final class AllTest {
    private static final Checks CHECKS = new Checks("AllTest");

    public static void main(String[] args) {
        image();
        restoreAll();
        restoreBook();
        restoreRefused();
        count();
        digestOfNoOffice();
        digestOfAnOffice();
        digestInOrder();
        CHECKS.end();
    }

    private static void due(String call, long got, long want) {
        CHECKS.due(call, got, want);
    }

    private static void image() {
        DarkOffice x = Checks.office("l3,l3", 0);
        due("image() of no minute", x.image(), 0);
        x.minute(1);
        x.minute(1);
        due("restore()", x.restore(), 0);
        due("nothing is lit", x.count(1), 0);
        x.minute(1);
        due("image(), the latest", x.image(), 1);
        x.minute(0);
        due("restore()", x.restore(), 1);
        x.minute(0);
        due("restore() again", x.restore(), 1);
        due("lamp(0, 2)", x.lamp(0, 2), 3);
    }

    private static void restoreAll() {
        DarkOffice x = Checks.office("l3,l1,w2", 0, 2);
        x.minute(1);
        x.minute(2);
        x.book(3, 0, true);
        x.round(0, 0);
        long before = x.digest();
        x.image();
        x.person(1);
        x.minute(7);
        x.move(0, 2);
        x.forget();
        x.book(1, 2, true);
        x.book(2, 2, true);
        for (int minute = 0; minute < 5; minute++) {
            x.minute(0);
        }
        due("all is changed", x.digest() == before ? 1 : 0, 0);
        due("restore()", x.restore(), 2);
        due("digest() as it was", x.digest(), before);
        due("who came since is gone", x.about(2, 0), DarkOffice.UNKNOWN);
        due("another one comes", x.person(2), 2);
        due("he never waved", x.about(2, 2), 0);
        due("nor sat in the dark", x.about(2, 3), 0);
        x.restore();
        x.round(0, 0);
        x.letter('l');
        x.restore();
        due("rounds stay", x.count(10), 2);
        due("the page stays", x.count(8), 1);
    }

    /** Each thing that the book can tell alone: it is told, kept, forgotten and told again by restore(). */
    private static void restoreBook() {
        for (int minute = 0; minute <= 6; minute++) {
            for (int lit = 0; lit <= 1; lit++) {
                DarkOffice x = Checks.office("l1,l1", 0);
                x.book(minute, 0, lit == 1);
                int told = x.waved(0, 6, 0);
                x.image();
                x.forget();
                x.book(minute, 0, lit == 0);
                int otherwise = x.waved(0, 6, 0);
                due("told of " + minute + ", " + lit, told, minute > 0 ? 32 : 64 - 64 * lit);
                due("told otherwise of " + minute + ", " + lit, otherwise, minute > 0 ? 32 : 64 * lit);
                int least = x.waved(0, 6, 1);
                x.restore();
                due("restored of " + minute + ", " + lit, x.waved(0, 6, 0), told);
                due("another least of " + minute + ", " + lit, x.waved(0, 6, 1) == least ? 1 : 0, 0);
            }
        }
    }

    private static void restoreRefused() {
        DarkOffice x = Checks.office("l3,l3", 0);
        due("restore() of none", x.restore(), DarkOffice.STATE);
        x.image();
        x.minute(1);
        due("office() of none", x.office(), DarkOffice.STATE);
        due("restore() in the same office", x.restore(), 0);
        Checks.write(x, "l3,l3");
        x.office();
        due("restore() in another office", x.restore(), DarkOffice.STATE);
        due("image() there", x.image(), 0);
        due("restore() there", x.restore(), 0);
        due("image() of no office", new DarkOffice().image(), DarkOffice.STATE);
    }

    private static void count() {
        DarkOffice x = Checks.office("l3,l1,w2", 0, 1, 2);
        x.minute(0b101);
        x.minute(0b010);
        x.minute(0);
        x.book(1, 1, true);
        x.letter('z');
        x.letter('z');
        x.round(0, 0);
        // Minute 1: 0 is lit for 3, 2 for 2; minute 2: 1 for 1, 2 for 2; minute 3: 0 for 1, 2 for 1.
        int[] wants = {3, 2, 3, 2, 3, 3, 2, 1, 2, 1, 1};
        for (int what = 0; what < wants.length; what++) {
            due("count(" + what + ")", x.count(what), wants[what]);
        }
        int[] outside = {-1, 11, Integer.MIN_VALUE, Integer.MAX_VALUE};
        for (int each : outside) {
            due("count(" + each + ")", x.count(each), DarkOffice.OUTSIDE);
        }
    }

    private static void digestOfNoOffice() {
        DarkOffice x = new DarkOffice();
        Checks.write(x, "l9~");
        due("digest() of a page", x.digest(), digest("l9~", 0, 0, 0, 0, 0, 0, 0, 0, 3, 0, 0));
        x.blank();
        due("digest() of none", x.digest(), digest("", 0, 0, 0, 0, 0, 0, 0, 0, 0, 0, 0));
    }

    private static void digestOfAnOffice() {
        DarkOffice x = Checks.office("l1,w2");
        due("digest() of nobody", x.digest(), digest("",
                0, 1, 0, 1, 0, 2,
                1, 2, 0, 3, 0, 1,
                0, 0, 0, 0, 2,
                2, 0, 0, 0, 0, 0, 0, 0, 0, 1, 0));
        x.person(1);
        x.person(0);
        x.minute(1);
        x.book(1, 0, true);
        x.round(1, 0);
        x.letter('w');
        // Person 0 cannot light lamp 0; of person 1 every second way is left, and lamp 0 tells most of those.
        due("digest() of two", x.digest(), digest(
                new long[] {
                    0, 1, 0, 1, 2, 2,
                    1, 2, 2, 3, 1, 1,
                    1, 1, 1, 0, 0, -1, -1,
                    0, 0, 0, 1, 8, 1, 0,
                    2, 2, 2, 0, 2,
                    'w',
                    2, 1, 2, 1, 1, 1, 1, 1, 1, 1, 1}));
    }

    /** Answers next to one another differ here, and one minute more or less would tell otherwise. */
    private static void digestInOrder() {
        DarkOffice x = Checks.office("h2,l1", 1);
        x.minute(1);
        x.book(2, 1, true);
        x.book(4, 1, true);
        // Behind 2 and behind 4 both lamps are lit for sure; behind 3 the hall is, but lamp 1 in every second way.
        due("digest() in order", x.digest(), digest(
                new long[] {
                    4, 2, 2, 3, 0, 1,
                    0, 1, 1, 2, 1, 2,
                    1, 1, 1, 0, 4, 10, 1,
                    2, 1, 1, 1, 2,
                    2, 2, 1, 1, 1, 1, 0, 2, 0, 1, 0}));
        DarkOffice y = Checks.office("l2,l1", 0);
        y.minute(1);
        // The lamp is lit for a minute yet, so he waves in the second one alone.
        due("digest() of a plan", y.digest(), digest(
                new long[] {
                    0, 2, 2, 1, 1, 1,
                    0, 1, 0, 2, 0, 1,
                    0, 1, 1, 0, 16, 0, 0,
                    1, 0, 1, 0, 1,
                    2, 1, 1, 1, 1, 1, 0, 0, 0, 1, 0}));
    }

    /** The digest of the numbers, with the page's letters ahead of the last eleven. */
    private static long digest(String letters, long... numbers) {
        long[] all = new long[numbers.length + letters.length()];
        int ahead = numbers.length - 11;
        for (int place = 0; place < all.length; place++) {
            if (place < ahead) {
                all[place] = numbers[place];
            } else if (place < ahead + letters.length()) {
                all[place] = letters.charAt(place - ahead);
            } else {
                all[place] = numbers[place - letters.length()];
            }
        }
        return digest(all);
    }

    private static long digest(long[] numbers) {
        long h = 911;
        for (long number : numbers) {
            h = 31 * h + number;
        }
        return h;
    }
}
