/** A long office at nine whose lamps go out unless somebody stirs beneath them; README.md tells how it is used. */
public final class DarkOffice {
    public static final int NONE = -1, UNKNOWN = -101, OUTSIDE = -102, STATE = -103, FULL = -104;

    private static final String KIND_LETTERS = "lwtdh";
    private static final int KIND_LAMP = 0, KIND_WIDE = 1, KIND_TWIN = 2, KIND_TIRED = 3, KIND_HALL = 4;
    private static final int KINDS = 5;

    private static final int MOST_LETTERS = 20;
    private static final int LEAST_LAMPS = 2, MOST_LAMPS = 6;
    private static final int LETTERS_A_LAMP = 3;
    private static final int MOST_PEOPLE = 4;
    private static final int MOST_TOLD = 8, LAST_TOLD_MINUTE = 6;
    private static final int LONGEST_PLAN = 3;
    private static final int LONGEST_ROUND = 7, MOST_ROUNDS = 20;
    private static final int LONGEST_WAY = 6;
    private static final int LONGEST_NIGHT = 60, DRAW_OF = 6;
    /** From this number on, "what" asks for a minute: 10 is the first one. */
    private static final int FIRST_MINUTE = 10;

    private final Page page = new Page();
    private final Lamps lamps = new Lamps();
    private final Evening now = new Evening();
    private final Evening kept = new Evening();
    private final Ways ways = new Ways();
    private final int[] plan = new int[LONGEST_PLAN];
    private final int[] steps = new int[LONGEST_ROUND];
    private boolean imageKept;
    private int officesRead;
    private int roundsDone;

    public DarkOffice() {
    }

    // ---- the office

    public int letter(int code) {
        if (code < 1 || code > 126) {
            return OUTSIDE;
        }
        return page.put(code);
    }

    public int blank() {
        int had = page.length;
        page.length = 0;
        return had;
    }

    public int fault() {
        return page.firstFault();
    }

    public int office() {
        if (!page.isOffice()) {
            return STATE;
        }
        lamps.read(page);
        page.length = 0;
        now.begin();
        imageKept = false;
        officesRead++;
        return lamps.size;
    }

    public int lamp(int lamp, int what) {
        if (!isLamp(lamp)) {
            return UNKNOWN;
        }
        switch (what) {
            case 0:
                return lamps.kinds[lamp];
            case 1:
                return lamps.holds[lamp];
            case 2:
                return Lamps.left(now.lit, lamp);
            case 3:
                return lamps.sees[lamp];
            case 4:
                return now.peopleIn(lamp);
            case 5:
                return lamps.seeing(lamp);
            default:
                return OUTSIDE;
        }
    }

    public int as(int lamp, int kind) {
        if (!isLamp(lamp)) {
            return UNKNOWN;
        }
        if (kind < 0 || kind >= KINDS) {
            return OUTSIDE;
        }
        return lamps.isOf(lamp, kind) ? lamp : NONE;
    }

    // ---- people, minutes

    public int person(int section) {
        if (!isLamp(section)) {
            return UNKNOWN;
        }
        return now.seat(section);
    }

    public int about(int person, int what) {
        if (!isPerson(person)) {
            return UNKNOWN;
        }
        switch (what) {
            case 0:
                return now.sections[person];
            case 1:
                return Lamps.left(now.lit, now.sections[person]) > 0 ? 1 : 0;
            case 2:
                return now.waves[person];
            case 3:
                return now.darks[person];
            default:
                return OUTSIDE;
        }
    }

    public int move(int person, int section) {
        if (!isPerson(person) || !isLamp(section)) {
            return UNKNOWN;
        }
        int from = now.sections[person];
        now.sections[person] = section;
        return from;
    }

    public int minute(int who) {
        // A sign bit stays under this shift, so a number below 0 is refused as well.
        if (who >> now.people != 0) {
            return OUTSIDE;
        }
        if (!hasOffice()) {
            return STATE;
        }
        now.lit = lamps.after(now.lit, now.stirred(who));
        now.minutes++;
        now.write(who, lamps.litOnes(now.lit));
        return now.inDark(lamps.litOnes(now.lit));
    }

    // ---- what would be

    public int least(int minutes, int what) {
        if (minutes < 1 || minutes > LONGEST_PLAN) {
            return OUTSIDE;
        }
        if (what != 0 && !asksMinute(what, LONGEST_PLAN)) {
            return OUTSIDE;
        }
        if (!hasOffice()) {
            return STATE;
        }
        int fewest = planWaving(minutes);
        return what == 0 ? fewest : ofMinute(plan, minutes, what);
    }

    public int round(int section, int what) {
        if (!isLamp(section)) {
            return UNKNOWN;
        }
        if (what != 0 && !asksMinute(what, LONGEST_ROUND)) {
            return OUTSIDE;
        }
        if (roundsDone >= MOST_ROUNDS) {
            return STATE;
        }
        roundsDone++;
        int fewest = planRound(section);
        return what == 0 ? fewest : ofMinute(steps, fewest, what);
    }

    public int together(int what) {
        if (what < 0 || what > 1) {
            return OUTSIDE;
        }
        if (!hasOffice()) {
            return STATE;
        }
        int section = lamps.mostSeen();
        return what == 0 ? section : lamps.seeing(section);
    }

    // ---- the book

    public int book(int minutes, int lamp, boolean lit) {
        if (minutes < 0 || minutes > LAST_TOLD_MINUTE) {
            return OUTSIDE;
        }
        if (!isLamp(lamp)) {
            return UNKNOWN;
        }
        return now.tell(minutes, lamp, lit);
    }

    public int forget() {
        int had = now.told;
        now.emptyBook();
        return had;
    }

    public int waved(int person, int minutes, int what) {
        if (!isPerson(person)) {
            return UNKNOWN;
        }
        if (minutes < 1 || minutes > LONGEST_WAY || what < 0 || what > 1) {
            return OUTSIDE;
        }
        ways.follow(lamps, now, now.sections[person], minutes);
        return what == 0 ? ways.left() : ways.first();
    }

    public int look(int person, int minutes) {
        if (!isPerson(person)) {
            return UNKNOWN;
        }
        if (minutes < 1 || minutes > LONGEST_WAY) {
            return OUTSIDE;
        }
        ways.follow(lamps, now, now.sections[person], minutes);
        return ways.tellingLamp(lamps.size);
    }

    public int nights(int minutes, int seed, int what) {
        if (minutes < 1 || minutes > LONGEST_NIGHT || seed < 0 || what < 0 || what > 2) {
            return OUTSIDE;
        }
        if (!hasOffice()) {
            return STATE;
        }
        int lit = now.lit;
        int dark = 0;
        int drawn = seed;
        for (int minute = 0; minute < minutes; minute++) {
            int who = 0;
            for (int person = 0; person < now.people; person++) {
                drawn = nextSeed(drawn);
                who |= draw(drawn) == 0 ? 1 << person : 0;
            }
            lit = lamps.after(lit, now.stirred(who));
            dark += now.inDark(lamps.litOnes(lit));
        }
        if (what == 0) {
            return dark;
        }
        return what == 1 ? Integer.bitCount(lamps.litOnes(lit)) : drawn;
    }

    // ---- what is told of all

    public int image() {
        if (!hasOffice()) {
            return STATE;
        }
        kept.copy(now);
        imageKept = true;
        return now.minutes;
    }

    public int restore() {
        if (!imageKept) {
            return STATE;
        }
        now.copy(kept);
        return now.minutes;
    }

    public int count(int what) {
        switch (what) {
            case 0:
                return lamps.size;
            case 1:
                return Integer.bitCount(lamps.litOnes(now.lit));
            case 2:
                return now.people;
            case 3:
                return now.people - now.inDark(lamps.litOnes(now.lit));
            case 4:
                return now.minutes;
            case 5:
                return now.ofAll(now.waves);
            case 6:
                return now.ofAll(now.darks);
            case 7:
                return now.told;
            case 8:
                return page.length;
            case 9:
                return officesRead;
            case 10:
                return roundsDone;
            default:
                return OUTSIDE;
        }
    }

    public long digest() {
        long h = 911;
        for (int lamp = 0; lamp < lamps.size; lamp++) {
            for (int what = 0; what <= 5; what++) {
                h = 31 * h + lamp(lamp, what);
            }
        }
        for (int person = 0; person < now.people; person++) {
            h = digestPerson(h, person);
        }
        if (hasOffice()) {
            h = 31 * h + planWaving(2);
            h = 31 * h + plan[0];
            h = 31 * h + plan[1];
            h = 31 * h + together(0);
            h = 31 * h + together(1);
        }
        for (int place = 0; place < page.length; place++) {
            h = 31 * h + page.codes[place];
        }
        for (int what = 0; what <= 10; what++) {
            h = 31 * h + count(what);
        }
        return h;
    }

    private long digestPerson(long before, int person) {
        long h = before;
        for (int what = 0; what <= 3; what++) {
            h = 31 * h + about(person, what);
        }
        ways.follow(lamps, now, now.sections[person], 4);
        h = 31 * h + ways.left();
        h = 31 * h + ways.first();
        return 31 * h + look(person, 3);
    }

    private boolean hasOffice() {
        return lamps.size > 0;
    }

    /** Sections bear the numbers of their lamps, so this is asked for both. */
    private boolean isLamp(int number) {
        return number >= 0 && number < lamps.size;
    }

    private boolean isPerson(int number) {
        return number >= 0 && number < now.people;
    }

    private static boolean asksMinute(int what, int longest) {
        return what >= FIRST_MINUTE && what < FIRST_MINUTE + longest;
    }

    private static int ofMinute(int[] row, int minutes, int what) {
        int place = what - FIRST_MINUTE;
        return place >= 0 && place < minutes && place < row.length ? row[place] : NONE;
    }

    private static int nextSeed(int seed) {
        // The wrap of int leaves the rest by 2 to the 32, and so that by 2 to the 31 below its sign.
        return (1103515245 * seed + 12345) & 0x7fffffff;
    }

    private static int draw(int seed) {
        return seed / 65536 % DRAW_OF;
    }

    /** Puts the least waving into the plan and answers how many waves it has. */
    private int planWaving(int minutes) {
        int most = now.people * minutes;
        // With ever more waves allowed, the first plan found has the fewest, and is the first of these by numbers.
        for (int waves = 0; waves <= most; waves++) {
            if (keepsLit(lamps, now, plan, minutes, 0, now.lit, waves)) {
                return waves;
            }
        }
        // Not reached: every lamp sees its own section, so nobody is in the dark where all wave.
        return NONE;
    }

    /** Whether so many waves from a minute on are enough that nobody sits in the dark; the plan has the first way. */
    private static boolean keepsLit(Lamps lamps, Evening evening, int[] plan, int minutes, int minute, int lit,
            int waves) {
        if (minute >= minutes || minute >= plan.length) {
            return true;
        }
        int groups = 1 << evening.people;
        for (int who = 0; who < groups; who++) {
            int left = waves - Integer.bitCount(who);
            if (left < 0) {
                continue;
            }
            int after = lamps.after(lit, evening.stirred(who));
            if (evening.inDark(lamps.litOnes(after)) == 0
                    && keepsLit(lamps, evening, plan, minutes, minute + 1, after, left)) {
                plan[minute] = who;
                return true;
            }
        }
        return false;
    }

    /** Puts the guard's round into the steps and answers how many minutes it takes; NONE if no round lights all. */
    private int planRound(int section) {
        for (int minutes = 1; minutes <= LONGEST_ROUND; minutes++) {
            if (lightsAll(lamps, steps, minutes, 0, section, now.lit)) {
                return minutes;
            }
        }
        return NONE;
    }

    /** Whether the guard, in a section at a minute, lights all at the end of the last; the steps have the first way. */
    private static boolean lightsAll(Lamps lamps, int[] steps, int minutes, int minute, int section, int lit) {
        if (minute >= minutes || minute >= steps.length || section < 0 || section >= lamps.size) {
            return false;
        }
        int after = lamps.after(lit, 1 << section);
        if (minute == minutes - 1) {
            steps[minute] = section > 0 ? 0 : 1;
            return lamps.litOnes(after) == lamps.allOnes();
        }
        for (int step = 0; step <= 2; step++) {
            if (lightsAll(lamps, steps, minutes, minute + 1, section + step - 1, after)) {
                steps[minute] = step;
                return true;
            }
        }
        return false;
    }

    /** The letters that may become an office. */
    private static final class Page {
        final int[] codes = new int[MOST_LETTERS];
        int length;

        int put(int code) {
            if (length >= MOST_LETTERS) {
                return FULL;
            }
            codes[length] = code;
            length++;
            return length;
        }

        int firstFault() {
            int place = 0;
            while (place < length && fits(codes[place], place)) {
                place++;
            }
            return place;
        }

        boolean isOffice() {
            return length >= LEAST_LAMPS * LETTERS_A_LAMP - 1
                    && length % LETTERS_A_LAMP == LETTERS_A_LAMP - 1
                    && firstFault() == length;
        }

        private static boolean fits(int code, int place) {
            if (place >= MOST_LAMPS * LETTERS_A_LAMP - 1) {
                return false;
            }
            switch (place % LETTERS_A_LAMP) {
                case 0:
                    return KIND_LETTERS.indexOf((char) code) >= 0;
                case 1:
                    return code >= '1' && code <= '9';
                default:
                    return code == ',';
            }
        }
    }

    /**
     * The lamps of the office; none, if there is no office. How long all of them are lit yet is one number, "lit",
     * with four bits for each lamp, so that what would be can be tried without making anything.
     */
    private static final class Lamps {
        final int[] kinds = new int[MOST_LAMPS];
        final int[] holds = new int[MOST_LAMPS];
        final int[] sees = new int[MOST_LAMPS];
        int size;

        /** The page must be an office. */
        void read(Page page) {
            size = Math.min(MOST_LAMPS, (page.length + 1) / LETTERS_A_LAMP);
            for (int lamp = 0; lamp < size; lamp++) {
                int place = lamp * LETTERS_A_LAMP;
                int digit = page.codes[place + 1] - '0';
                kinds[lamp] = KIND_LETTERS.indexOf((char) page.codes[place]);
                holds[lamp] = kinds[lamp] == KIND_TIRED ? (digit + 1) / 2 : digit;
                sees[lamp] = seenBy(kinds[lamp], 1 << lamp) & allOnes();
            }
        }

        /** The sections that a kind sees from its own, as bits; also such as no office has. */
        private static int seenBy(int kind, int own) {
            switch (kind) {
                case KIND_WIDE:
                    return own >> 1 | own | own << 1;
                case KIND_TWIN:
                    return own | own << 1;
                case KIND_HALL:
                    return -1;
                default:
                    return own;
            }
        }

        boolean isOf(int lamp, int kind) {
            return kind == KIND_LAMP || kind == kinds[lamp] || kind == KIND_WIDE && kinds[lamp] == KIND_HALL;
        }

        int allOnes() {
            return (1 << size) - 1;
        }

        static int left(int lit, int lamp) {
            return lit >> 4 * lamp & 15;
        }

        int litOnes(int lit) {
            int ones = 0;
            for (int lamp = 0; lamp < size; lamp++) {
                ones |= left(lit, lamp) > 0 ? 1 << lamp : 0;
            }
            return ones;
        }

        /** How long all are lit behind a minute in which somebody stirs in these sections (bits). */
        int after(int lit, int stirred) {
            int next = 0;
            for (int lamp = 0; lamp < size; lamp++) {
                int minutes = (sees[lamp] & stirred) != 0 ? holds[lamp] : Math.max(0, left(lit, lamp) - 1);
                next |= minutes << 4 * lamp;
            }
            return next;
        }

        int seeing(int section) {
            int many = 0;
            for (int lamp = 0; lamp < size; lamp++) {
                many += sees[lamp] >> section & 1;
            }
            return many;
        }

        int mostSeen() {
            int best = 0;
            for (int section = 1; section < size; section++) {
                if (seeing(section) > seeing(best)) {
                    best = section;
                }
            }
            return best;
        }
    }

    /** All that an image keeps. */
    private static final class Evening {
        int lit;
        int minutes;
        int people;
        final int[] sections = new int[MOST_PEOPLE];
        final int[] waves = new int[MOST_PEOPLE];
        final int[] darks = new int[MOST_PEOPLE];
        int told;
        /** The lamps (bits) that the book tells to be lit behind each minute, and those to be dark. */
        final int[] toldLit = new int[LAST_TOLD_MINUTE + 1];
        final int[] toldDark = new int[LAST_TOLD_MINUTE + 1];

        void begin() {
            lit = 0;
            minutes = 0;
            people = 0;
            emptyBook();
        }

        void copy(Evening other) {
            lit = other.lit;
            minutes = other.minutes;
            people = other.people;
            told = other.told;
            for (int person = 0; person < MOST_PEOPLE; person++) {
                sections[person] = other.sections[person];
                waves[person] = other.waves[person];
                darks[person] = other.darks[person];
            }
            for (int minute = 0; minute <= LAST_TOLD_MINUTE; minute++) {
                toldLit[minute] = other.toldLit[minute];
                toldDark[minute] = other.toldDark[minute];
            }
        }

        int seat(int section) {
            if (people >= MOST_PEOPLE) {
                return FULL;
            }
            int person = people;
            sections[person] = section;
            waves[person] = 0;
            darks[person] = 0;
            people++;
            return person;
        }

        int peopleIn(int section) {
            int who = 0;
            for (int person = 0; person < people; person++) {
                who |= sections[person] == section ? 1 << person : 0;
            }
            return who;
        }

        /** The sections (bits) in which these people (bits) wave. */
        int stirred(int who) {
            int stirring = 0;
            for (int person = 0; person < people; person++) {
                stirring |= (who >> person & 1) << sections[person];
            }
            return stirring;
        }

        int inDark(int litOnes) {
            int many = 0;
            for (int person = 0; person < people; person++) {
                many += 1 - (litOnes >> sections[person] & 1);
            }
            return many;
        }

        void write(int who, int litOnes) {
            for (int person = 0; person < people; person++) {
                waves[person] += who >> person & 1;
                darks[person] += 1 - (litOnes >> sections[person] & 1);
            }
        }

        int ofAll(int[] row) {
            int sum = 0;
            for (int person = 0; person < people && person < row.length; person++) {
                sum += row[person];
            }
            return sum;
        }

        /** The minute must be one of which the book can tell. */
        int tell(int minute, int lamp, boolean isLit) {
            if (told >= MOST_TOLD) {
                return FULL;
            }
            if (isLit) {
                toldLit[minute] |= 1 << lamp;
            } else {
                toldDark[minute] |= 1 << lamp;
            }
            told++;
            return told;
        }

        void emptyBook() {
            told = 0;
            for (int minute = 0; minute <= LAST_TOLD_MINUTE; minute++) {
                toldLit[minute] = 0;
                toldDark[minute] = 0;
            }
        }

        boolean bookAgrees(int minute, int litOnes) {
            if (minute < 0 || minute > LAST_TOLD_MINUTE) {
                return true;
            }
            return (toldLit[minute] & ~litOnes) == 0 && (toldDark[minute] & litOnes) == 0;
        }
    }

    /** In which ways one could have waved: the way's bits are its number, bit 0 for the first minute. */
    private static final class Ways {
        private static final int GONE = -1;

        /** How long all lamps are lit at each way's end; GONE where the book speaks against it. */
        final int[] ends = new int[1 << LONGEST_WAY];
        int size;

        void follow(Lamps lamps, Evening evening, int section, int minutes) {
            size = 1;
            ends[0] = evening.bookAgrees(0, lamps.litOnes(evening.lit)) ? evening.lit : GONE;
            for (int minute = 1; minute <= minutes && minute <= LONGEST_WAY; minute++) {
                for (int way = 0; way < size; way++) {
                    ends[size + way] = further(lamps, evening, ends[way], 1 << section, minute);
                    ends[way] = further(lamps, evening, ends[way], 0, minute);
                }
                size *= 2;
            }
        }

        private static int further(Lamps lamps, Evening evening, int lit, int stirred, int minute) {
            if (lit == GONE) {
                return GONE;
            }
            int after = lamps.after(lit, stirred);
            return evening.bookAgrees(minute, lamps.litOnes(after)) ? after : GONE;
        }

        int left() {
            int many = 0;
            for (int way = 0; way < size; way++) {
                many += ends[way] != GONE ? 1 : 0;
            }
            return many;
        }

        int first() {
            for (int way = 0; way < size; way++) {
                if (ends[way] != GONE) {
                    return way;
                }
            }
            return NONE;
        }

        /** The lamp by which fewest ways are left at worst; NONE if there is no way. */
        int tellingLamp(int lampsInAll) {
            int many = left();
            int best = NONE;
            int fewest = many + 1;
            for (int lamp = 0; lamp < lampsInAll && many > 0; lamp++) {
                int endLit = endLit(lamp);
                int worst = Math.max(endLit, many - endLit);
                if (worst < fewest) {
                    fewest = worst;
                    best = lamp;
                }
            }
            return best;
        }

        private int endLit(int lamp) {
            int many = 0;
            for (int way = 0; way < size; way++) {
                many += ends[way] != GONE && Lamps.left(ends[way], lamp) > 0 ? 1 : 0;
            }
            return many;
        }
    }
}
