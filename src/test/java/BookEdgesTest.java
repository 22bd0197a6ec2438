/** The book, nights and promises 15 to 19: each sentence that names a boundary case, in a test of its own. */
public final class BookEdgesTest {
    private static final Checks CHECKS = new Checks("BookEdgesTest");
    private static final int NONE = DarkOffice.NONE;
    private static final int UNKNOWN = DarkOffice.UNKNOWN;
    private static final int OUTSIDE = DarkOffice.OUTSIDE;
    private static final int STATE = DarkOffice.STATE;
    private static final int FULL = DarkOffice.FULL;
    private static final int[] FAR = {Integer.MIN_VALUE, -256, -1, 256, 1 << 16, Integer.MAX_VALUE};

    public static void main(String[] args) {
        eightAtMost();
        zeroToSixMinutes();
        zeroIsNow();
        countedFromWhenItIsAsked();
        bookTellsHowMuch();
        bookOutside();
        bookUnknown();
        bookFull();
        forgetAnyMuch();
        wavedMinutes();
        wavedWays();
        wavedOfNoMore();
        wavedLeast();
        wavedNone();
        wavedRefused();
        lookBehindTheLast();
        lookAtWorst();
        lookOfLikeOnes();
        lookNone();
        lookRefused();
        nightsByNumber();
        nightsDrawOfSix();
        nightsHowOften();
        nightsHowManyLit();
        nightsRest();
        nightsRoundedDown();
        nightsWouldBe();
        nightsSeedThen();
        nightsOutside();
        nightsOfNoOffice();
        CHECKS.end();
    }

    private static void says(String words) {
        CHECKS.says(words);
    }

    private static void due(String call, long got, long want) {
        CHECKS.due(call, got, want);
    }

    private static void wavedIs(String when, DarkOffice x, int minutes, int many, int least) {
        due(when + ": waved(0, " + minutes + ", 0)", x.waved(0, minutes, 0), many);
        due(when + ": waved(0, " + minutes + ", 1)", x.waved(0, minutes, 1), least);
    }

    private static void eightAtMost() {
        says("BOOK (8 at most)");
        DarkOffice x = Checks.office("l1,l1", 0);
        for (int told = 1; told <= 8; told++) {
            due("book " + told, x.book(told % 7, told % 2, false), told);
            due("count(7)", x.count(7), told);
        }
        due("book 9", x.book(1, 0, true), FULL);
        due("count(7)", x.count(7), 8);
        due("the ninth does not count: waved(0, 1, 0)", x.waved(0, 1, 0), 1);
        due("forget()", x.forget(), 8);
        due("book 1 again", x.book(1, 0, true), 1);
    }

    private static void zeroToSixMinutes() {
        says("that behind so many MINUTES from now (0 to 6;");
        for (int minutes = -3; minutes <= 9; minutes++) {
            DarkOffice x = Checks.office("l1,l1", 0);
            boolean asTold = minutes >= 0 && minutes <= 6;
            due("book(" + minutes + ", 0, false)", x.book(minutes, 0, false), asTold ? 1 : OUTSIDE);
            due("book(" + minutes + ", 1, true)", x.book(minutes, 1, true), asTold ? 2 : OUTSIDE);
            due("no way with lamp 1 lit: waved(0, 6, 0)", x.waved(0, 6, 0), asTold ? 0 : 64);
        }
    }

    private static void zeroIsNow() {
        says("0 is now");
        DarkOffice x = Checks.office("l1,l1", 0);
        x.book(0, 0, true);
        for (int minutes = 1; minutes <= 6; minutes++) {
            wavedIs("it is dark now", x, minutes, 0, NONE);
            due("it is dark now: look(0, " + minutes + ")", x.look(0, minutes), NONE);
        }
        x.minute(1);
        for (int minutes = 1; minutes <= 6; minutes++) {
            wavedIs("it is lit now", x, minutes, 1 << minutes, 0);
        }
        x.forget();
        x.book(0, 0, false);
        wavedIs("it is lit now, not dark", x, 1, 0, NONE);
        x.minute(0);
        wavedIs("it went out", x, 1, 2, 0);
    }

    private static void countedFromWhenItIsAsked() {
        says("counted from how all is when it is asked, not when it was told) a LAMP was lit, or dark.");
        DarkOffice x = Checks.office("l3,l1", 0);
        x.book(2, 0, false);
        wavedIs("dark: no wave", x, 2, 1, 0);
        x.minute(1);
        wavedIs("lit for three: it is lit behind two", x, 2, 0, NONE);
        x.minute(0);
        wavedIs("lit for two: it is dark behind two", x, 2, 1, 0);
        x.minute(0);
        x.minute(0);
        wavedIs("dark again: still behind two", x, 2, 1, 0);
        for (int minute = 0; minute < 20; minute++) {
            x.minute(0);
        }
        wavedIs("long behind: still behind two", x, 2, 1, 0);
        due("what was told stays", x.count(7), 1);
    }

    private static void bookTellsHowMuch() {
        says("It is told by the BOOK: how much is.");
        DarkOffice x = Checks.office("l1,l1", 0);
        due("first", x.book(1, 0, true), 1);
        due("the same again", x.book(1, 0, true), 2);
        due("the contrary", x.book(1, 0, false), 3);
        due("count(7)", x.count(7), 3);
        wavedIs("the contrary leaves no way", x, 1, 0, NONE);
        x.forget();
        x.book(1, 0, true);
        x.book(1, 0, true);
        wavedIs("the same leaves the same", x, 1, 1, 1);
    }

    private static void bookOutside() {
        says("OUTSIDE: minutes (0 to 6)");
        DarkOffice x = Checks.office("l1,l1");
        for (int far : FAR) {
            due("book(" + far + ", 0, true)", x.book(far, 0, true), OUTSIDE);
            due("book(" + far + ", 2, true)", x.book(far, 2, true), OUTSIDE);
        }
        due("book(7, 0, true)", x.book(7, 0, true), OUTSIDE);
        due("book(7, -1, true)", x.book(7, -1, true), OUTSIDE);
        due("book(-1, 0, true) of no office", new DarkOffice().book(-1, 0, true), OUTSIDE);
        due("nothing is told", x.count(7), 0);
    }

    private static void bookUnknown() {
        says("OUTSIDE: minutes (0 to 6); UNKNOWN: lamp");
        for (int many = 2; many <= 6; many++) {
            DarkOffice x = Checks.office(Checks.alike("l1", many));
            due("book(0, -1, true) of " + many, x.book(0, -1, true), UNKNOWN);
            due("book(6, " + many + ", false) of " + many, x.book(6, many, false), UNKNOWN);
            for (int far : FAR) {
                due("book(0, " + far + ", true)", x.book(0, far, true), UNKNOWN);
            }
            due("nothing is told", x.count(7), 0);
            due("book(6, " + (many - 1) + ", false) of " + many, x.book(6, many - 1, false), 1);
        }
        due("book(0, 0, true) of no office", new DarkOffice().book(0, 0, true), UNKNOWN);
    }

    private static void bookFull() {
        says("UNKNOWN: lamp; FULL.");
        DarkOffice x = Checks.office("l1,l1", 0);
        for (int told = 0; told < 8; told++) {
            x.book(6, 0, true);
        }
        due("book 9", x.book(0, 0, true), FULL);
        due("book 9, the same", x.book(6, 0, true), FULL);
        due("book 9 of no lamp", x.book(0, 2, true), UNKNOWN);
        due("book 9, outside", x.book(7, 0, true), OUTSIDE);
        due("book 9 of no lamp, outside", x.book(-1, -1, true), OUTSIDE);
        due("it was not told: waved(0, 6, 0)", x.waved(0, 6, 0), 32);
        due("count(7)", x.count(7), 8);
    }

    private static void forgetAnyMuch() {
        says("The BOOK is empty: how much it told.");
        for (int much = 0; much <= 8; much++) {
            DarkOffice x = Checks.office("l1,l1", 0);
            for (int told = 0; told < much; told++) {
                x.book(told % 7, 1, true);
            }
            due("forget() of " + much, x.forget(), much);
            due("forget() again", x.forget(), 0);
            due("count(7)", x.count(7), 0);
            wavedIs("all ways again", x, 6, 64, 0);
        }
        due("forget() of no office", new DarkOffice().forget(), 0);
    }

    private static void wavedMinutes() {
        says("WAVED of one for so many MINUTES (1 to 6)");
        DarkOffice x = Checks.office("l1,l1", 0);
        due("waved(0, 0, 0)", x.waved(0, 0, 0), OUTSIDE);
        for (int minutes = 1; minutes <= 6; minutes++) {
            wavedIs("no book", x, minutes, 1 << minutes, 0);
        }
        due("waved(0, 7, 0)", x.waved(0, 7, 0), OUTSIDE);
    }

    private static void wavedWays() {
        says("in how many ways he could have WAVED in these, or not (nobody else doing so)");
        DarkOffice x = Checks.office("l1,l1", 0, 1);
        x.book(1, 1, true);
        wavedIs("nobody else", x, 1, 0, NONE);
        due("he himself: waved(1, 1, 0)", x.waved(1, 1, 0), 1);
        // Dark behind every minute: the one way of never waving.
        DarkOffice never = Checks.office("l1,l1", 0);
        DarkOffice always = Checks.office("l1,l1", 0);
        for (int minute = 1; minute <= 6; minute++) {
            never.book(minute, 0, false);
            always.book(minute, 0, true);
        }
        wavedIs("never", never, 6, 1, 0);
        wavedIs("always", always, 6, 1, 63);
    }

    private static void wavedOfNoMore() {
        says("so that all that the BOOK tells of no more MINUTES is so: how many");
        for (int told = 1; told <= 6; told++) {
            DarkOffice x = Checks.office("l1,l1", 0);
            x.book(told, 0, true);
            for (int minutes = 1; minutes <= 6; minutes++) {
                wavedIs("told of " + told, x, minutes, minutes < told ? 1 << minutes : 1 << minutes - 1,
                        minutes < told ? 0 : 1 << told - 1);
            }
        }
    }

    private static void wavedLeast() {
        says("how many; the least (bit 0 for the first MINUTE).");
        DarkOffice first = Checks.office("l1,l1", 0);
        first.book(1, 0, true);
        wavedIs("in the first", first, 6, 32, 1);
        DarkOffice last = Checks.office("l1,l1", 0);
        last.book(6, 0, true);
        wavedIs("in the last", last, 6, 32, 32);
        // Lit behind two minutes by a wave in either: that in the first is the lesser number.
        DarkOffice either = Checks.office("l2,l1", 0);
        either.book(2, 0, true);
        wavedIs("in either", either, 2, 3, 1);
    }

    private static void wavedNone() {
        says("1 the least (NONE).");
        DarkOffice x = Checks.office("l1,l1", 0);
        x.book(6, 0, true);
        x.book(6, 0, false);
        wavedIs("told of more", x, 5, 32, 0);
        wavedIs("no way", x, 6, 0, NONE);
    }

    private static void wavedRefused() {
        says("1 the least (NONE). UNKNOWN: person; OUTSIDE: minutes, what.");
        for (int many = 0; many <= 4; many++) {
            DarkOffice x = Checks.office("l1,l1", new int[many]);
            for (int minutes = -1; minutes <= 8; minutes++) {
                for (int what = -1; what <= 2; what++) {
                    boolean asTold = minutes >= 1 && minutes <= 6 && what >= 0 && what <= 1;
                    String rest = ", " + minutes + ", " + what + ")";
                    due("waved(-1" + rest, x.waved(-1, minutes, what), UNKNOWN);
                    due("waved(" + many + rest, x.waved(many, minutes, what), UNKNOWN);
                    if (many > 0 && !asTold) {
                        due("waved(" + (many - 1) + rest, x.waved(many - 1, minutes, what), OUTSIDE);
                    }
                }
            }
        }
        DarkOffice x = Checks.office("l1,l1", 0);
        for (int far : FAR) {
            due("waved(" + far + ", 1, 0)", x.waved(far, 1, 0), UNKNOWN);
            due("waved(0, " + far + ", 0)", x.waved(0, far, 0), OUTSIDE);
            due("waved(0, 1, " + far + ")", x.waved(0, 1, far), OUTSIDE);
        }
    }

    private static void lookBehindTheLast() {
        says("LOOK for one and so many MINUTES: the LAMP by which, behind the last one of these,");
        for (int minutes = 1; minutes <= 6; minutes++) {
            DarkOffice x = Checks.office("h2,l1", 1);
            // Behind one minute both tell the same; behind more, the hall is lit in three of four ways.
            due("look(0, " + minutes + ")", x.look(0, minutes), minutes == 1 ? 0 : 1);
            x.book(minutes, 1, true);
            // Both are lit for sure then, but behind one minute more lamp 1 tells all.
            due("told of the last: look(0, " + minutes + ")", x.look(0, minutes), 0);
            if (minutes < 6) {
                due("told of the last but one: look(0, " + (minutes + 1) + ")", x.look(0, minutes + 1), 1);
            }
        }
    }

    private static void lookAtWorst() {
        says("fewest of these ways would be left at worst, whether it is lit, or dark");
        // Behind two minutes the hall is lit in 3 of 4 ways, lamp 1 in 2: lit is the worse one of the hall.
        due("worse if lit", Checks.office("h2,l1", 1).look(0, 2), 1);
        // He cannot light lamp 0: dark is its worse one.
        due("worse if dark", Checks.office("l1,l1", 1).look(0, 1), 1);
        // Lamp 0 stays lit, whether he waves or not: lit is its worse one.
        DarkOffice lit = Checks.office("l9,l1", 0, 1);
        lit.minute(1);
        due("lit in every way", lit.look(1, 1), 1);
        // Ways 0 and 2 are left, and each lamp tells them apart.
        DarkOffice x = Checks.office("h2,l1", 1, 0);
        x.book(1, 1, false);
        due("one and one of two", x.look(0, 2), 0);
    }

    private static void lookOfLikeOnes() {
        says("whether it is lit, or dark: of like ones the least; none.");
        for (int many = 2; many <= 6; many++) {
            DarkOffice x = Checks.office(Checks.alike("h1", many), many - 1);
            due("all tell the same", x.look(0, 3), 0);
            DarkOffice y = Checks.office(Checks.alike("l1", many), many - 1);
            due("the last alone tells", y.look(0, 3), many - 1);
        }
        // The first never tells; the second and third are alike.
        due("the second", Checks.office("l1,h1,h1", 1).look(0, 1), 1);
        DarkOffice lit = Checks.office("h9,h9", 1);
        lit.minute(1);
        due("none tells, all stay lit", lit.look(0, 6), 0);
    }

    private static void lookNone() {
        says("LOOK; NONE: there is no way.");
        DarkOffice x = Checks.office("l1,l1", 0);
        x.book(3, 1, true);
        for (int minutes = 1; minutes <= 6; minutes++) {
            due("look(0, " + minutes + ")", x.look(0, minutes), minutes < 3 ? 0 : NONE);
        }
        DarkOffice one = Checks.office("l1,l1", 0);
        one.book(1, 0, true);
        due("one way is left: look(0, 1)", one.look(0, 1), 0);
    }

    private static void lookRefused() {
        says("NONE: there is no way. UNKNOWN: person; OUTSIDE: minutes.");
        for (int many = 0; many <= 4; many++) {
            DarkOffice x = Checks.office("l1,l1", new int[many]);
            for (int minutes = -1; minutes <= 8; minutes++) {
                due("look(-1, " + minutes + ")", x.look(-1, minutes), UNKNOWN);
                due("look(" + many + ", " + minutes + ")", x.look(many, minutes), UNKNOWN);
                if (many > 0) {
                    due("look(" + (many - 1) + ", " + minutes + ")", x.look(many - 1, minutes),
                            minutes >= 1 && minutes <= 6 ? 0 : OUTSIDE);
                }
            }
        }
        DarkOffice x = Checks.office("l1,l1", 0);
        for (int far : FAR) {
            due("look(" + far + ", 1)", x.look(far, 1), UNKNOWN);
            due("look(0, " + far + ")", x.look(0, far), OUTSIDE);
        }
    }

    private static long next(long seed) {
        return Math.floorMod(1103515245L * seed + 12345L, 1L << 31);
    }

    private static boolean wavesBy(long drawn) {
        return drawn / 65536 % 6 == 0;
    }

    /** The first seed from one on whose first draw lets one wave, or not, and whose second does. */
    private static int seedBy(int from, boolean first, boolean second) {
        for (int seed = from; seed < Integer.MAX_VALUE; seed++) {
            long drawn = next(seed);
            if (wavesBy(drawn) == first && wavesBy(next(drawn)) == second) {
                return seed;
            }
        }
        return NONE;
    }

    private static void nightsByNumber() {
        says("in each of which each of PEOPLE, by number, WAVES");
        // Person 0 lights both lamps, person 1 only that of his own.
        for (int from : new int[] {0, 1000, 1 << 30}) {
            DarkOffice x = Checks.office("l1,h1", 0, 1);
            due("neither", x.nights(1, seedBy(from, false, false), 1), 0);
            due("person 0 alone", x.nights(1, seedBy(from, true, false), 1), 2);
            due("person 1 alone", x.nights(1, seedBy(from, false, true), 1), 1);
            due("both", x.nights(1, seedBy(from, true, true), 1), 2);
        }
    }

    private static void nightsDrawOfSix() {
        says("WAVES, if a DRAW of 6 is 0");
        DarkOffice x = Checks.office("l1,l1", 0);
        for (int rest = 0; rest < 6; rest++) {
            int seed = 0;
            while (next(seed) / 65536 % 6 != rest) {
                seed++;
            }
            due("a draw of " + rest + ": nights(1, " + seed + ", 0)", x.nights(1, seed, 0), rest == 0 ? 0 : 1);
            due("a draw of " + rest + ": nights(1, " + seed + ", 1)", x.nights(1, seed, 1), rest == 0 ? 1 : 0);
        }
    }

    private static void nightsHowOften() {
        says("how often one sits in the DARK; how many LAMPS are lit then.");
        for (int seed : new int[] {0, 1, 12345, Integer.MAX_VALUE}) {
            for (int minutes : new int[] {1, 2, 59, 60}) {
                DarkOffice x = Checks.office("l1,l1", 0, 0, 1, 1);
                long drawn = seed;
                int dark = 0;
                for (int minute = 0; minute < minutes; minute++) {
                    boolean[] lit = new boolean[2];
                    for (int person = 0; person < 4; person++) {
                        drawn = next(drawn);
                        lit[person / 2] |= wavesBy(drawn);
                    }
                    dark += (lit[0] ? 0 : 2) + (lit[1] ? 0 : 2);
                }
                due("nights(" + minutes + ", " + seed + ", 0)", x.nights(minutes, seed, 0), dark);
            }
        }
        due("nobody is never in the dark", Checks.office("l1,l1").nights(60, 0, 0), 0);
    }

    private static void nightsHowManyLit() {
        says("how many LAMPS are lit then. DRAWS:");
        DarkOffice x = Checks.office(Checks.alike("h9", 6), 0);
        due("none: nights(1, 1, 1)", x.nights(1, 1, 1), 0);
        due("all: nights(1, 0, 1)", x.nights(1, 0, 1), 6);
        x.minute(1);
        due("all are lit yet: nights(1, 1, 1)", x.nights(1, 1, 1), 6);
        DarkOffice goesOut = Checks.office("l1,l1", 0);
        goesOut.minute(1);
        due("it goes out: nights(1, 1, 1)", goesOut.nights(1, 1, 1), 0);
        due("nobody: nights(60, 0, 1)", Checks.office("l9,l9").nights(60, 0, 1), 0);
    }

    private static void nightsRest() {
        says("the next SEED each time: 1103515245 times it and 12345, its rest by 2 to the 31");
        DarkOffice x = Checks.office("l1,l1", 0);
        int[] seeds = {0, 1, 2, 65535, 65536, 1 << 30, Integer.MAX_VALUE - 1, Integer.MAX_VALUE};
        for (int seed : seeds) {
            due("nights(1, " + seed + ", 2)", x.nights(1, seed, 2), next(seed));
            due("nights(2, " + seed + ", 2)", x.nights(2, seed, 2), next(next(seed)));
        }
        due("by hand: nights(1, 0, 2)", x.nights(1, 0, 2), 12345);
        due("by hand: nights(1, MAX, 2)", x.nights(1, Integer.MAX_VALUE, 2), 1043980748);
    }

    private static void nightsRoundedDown() {
        says("then that by 65536 (rounded down), its rest.");
        DarkOffice x = Checks.office("l1,l1", 0);
        // Draws of rest 0 and of rest 5, with little to nearly 65536 above what is rounded down to.
        for (int rest = 0; rest <= 5; rest += 5) {
            for (int part = 0; part < 65536; part += 8191) {
                int seed = 0;
                while (next(seed) / 65536 % 6 != rest || next(seed) % 65536 < part || next(seed) % 65536 > part + 99) {
                    seed++;
                }
                String call = "rest " + rest + ", part " + part + ": nights(1, " + seed + ", 0)";
                due(call, x.nights(1, seed, 0), rest == 0 ? 0 : 1);
            }
        }
    }

    private static void nightsWouldBe() {
        says("NIGHTS by a SEED, as they would be");
        DarkOffice x = Checks.office("l9,l9", 0);
        x.minute(1);
        long before = x.digest();
        due("lit for nine, he does not wave: nights(1, 1, 0)", x.nights(1, 1, 0), 0);
        x.nights(60, 5, 0);
        x.nights(60, 5, 1);
        x.nights(60, 5, 2);
        due("all is as it was: digest()", x.digest(), before);
        due("the same again: nights(1, 1, 0)", x.nights(1, 1, 0), 0);
        due("no minute went", x.count(4), 1);
    }

    private static void nightsSeedThen() {
        says("2 the SEED then.");
        for (int many = 0; many <= 4; many++) {
            DarkOffice x = Checks.office("l1,l1", new int[many]);
            for (int minutes : new int[] {1, 60}) {
                long drawn = 77;
                for (int draw = 0; draw < many * minutes; draw++) {
                    drawn = next(drawn);
                }
                due("nights(" + minutes + ", 77, 2) of " + many, x.nights(minutes, 77, 2), drawn);
            }
        }
        DarkOffice nobody = Checks.office("l1,l1");
        due("no draw: nights(60, MAX, 2)", nobody.nights(60, Integer.MAX_VALUE, 2), Integer.MAX_VALUE);
        due("no draw: nights(60, 0, 2)", nobody.nights(60, 0, 2), 0);
    }

    private static void nightsOutside() {
        says("OUTSIDE: minutes (1 to 60), seed (0 at least), what");
        DarkOffice nobody = Checks.office("l1,l1");
        for (int minutes = -2; minutes <= 63; minutes++) {
            boolean asTold = minutes >= 1 && minutes <= 60;
            due("nights(" + minutes + ", 5, 2)", nobody.nights(minutes, 5, 2), asTold ? 5 : OUTSIDE);
        }
        for (int far : FAR) {
            due("nights(" + far + ", 5, 2)", nobody.nights(far, 5, 2), OUTSIDE);
            due("nights(1, " + far + ", 2)", nobody.nights(1, far, 2), far < 0 ? OUTSIDE : far);
            due("nights(1, 5, " + far + ")", nobody.nights(1, 5, far), OUTSIDE);
        }
        due("nights(1, 0, 2)", nobody.nights(1, 0, 2), 0);
        due("nights(1, 5, 3)", nobody.nights(1, 5, 3), OUTSIDE);
    }

    private static void nightsOfNoOffice() {
        says("seed (0 at least), what; STATE: no OFFICE.");
        DarkOffice none = new DarkOffice();
        for (int what = 0; what <= 2; what++) {
            due("nights(1, 0, " + what + ")", none.nights(1, 0, what), STATE);
            due("nights(60, MAX, " + what + ")", none.nights(60, Integer.MAX_VALUE, what), STATE);
        }
        due("nights(0, 0, 0)", none.nights(0, 0, 0), OUTSIDE);
        due("nights(61, 0, 0)", none.nights(61, 0, 0), OUTSIDE);
        due("nights(1, -1, 0)", none.nights(1, -1, 0), OUTSIDE);
        due("nights(1, 0, 3)", none.nights(1, 0, 3), OUTSIDE);
        due("nights(1, 0, -1)", none.nights(1, 0, -1), OUTSIDE);
    }
}
