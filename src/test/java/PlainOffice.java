import java.math.BigInteger;
import java.util.ArrayList;
import java.util.List;

/** The document once more, in the slowest and plainest way, for ModelTest: every question is tried out in full. */
final class PlainOffice {
    private static final int NONE = -1, UNKNOWN = -101, OUTSIDE = -102, STATE = -103, FULL = -104;

    private record Told(int minutes, int lamp, boolean lit) {
    }

    /** What an image keeps. */
    private static final class Evening {
        int[] lit = {};
        int minutes;
        final List<int[]> people = new ArrayList<>();
        final List<Told> book = new ArrayList<>();

        Evening copy() {
            Evening other = new Evening();
            other.lit = lit.clone();
            other.minutes = minutes;
            for (int[] person : people) {
                other.people.add(person.clone());
            }
            other.book.addAll(book);
            return other;
        }
    }

    private String page = "";
    private String[] lamps = {};
    private Evening now = new Evening();
    private Evening kept;
    private int read;
    private int rounds;

    int letter(int code) {
        if (code < 1 || code > 126) {
            return OUTSIDE;
        }
        if (page.length() == 20) {
            return FULL;
        }
        page += (char) code;
        return page.length();
    }

    int blank() {
        int had = page.length();
        page = "";
        return had;
    }

    int fault() {
        int place = 0;
        while (place < page.length() && canBecomeOffice(page.substring(0, place + 1))) {
            place++;
        }
        return place;
    }

    /** Whether some office begins so: filled up behind with what is left of a long office. */
    private static boolean canBecomeOffice(String begin) {
        String rest = "l1,l1,l1,l1,l1,l1";
        return begin.length() <= rest.length() && isOffice(begin + rest.substring(begin.length()));
    }

    private static boolean isOffice(String text) {
        return text.matches("[lwtdh][1-9](,[lwtdh][1-9]){1,5}");
    }

    int office() {
        if (!isOffice(page)) {
            return STATE;
        }
        lamps = page.split(",");
        page = "";
        now = new Evening();
        now.lit = new int[lamps.length];
        kept = null;
        read++;
        return lamps.length;
    }

    private boolean sees(int lamp, int section) {
        int further = section - lamp;
        switch (lamps[lamp].charAt(0)) {
            case 'w':
                return Math.abs(further) <= 1;
            case 't':
                return further == 0 || further == 1;
            case 'h':
                return true;
            default:
                return further == 0;
        }
    }

    private int holds(int lamp) {
        int digit = Integer.parseInt(lamps[lamp].substring(1));
        return lamps[lamp].startsWith("d") ? (int) Math.ceil(digit / 2.0) : digit;
    }

    private int seers(int section) {
        int many = 0;
        for (int lamp = 0; lamp < lamps.length; lamp++) {
            many += sees(lamp, section) ? 1 : 0;
        }
        return many;
    }

    private boolean isLamp(int lamp) {
        return 0 <= lamp && lamp < lamps.length;
    }

    private boolean isPerson(int person) {
        return 0 <= person && person < now.people.size();
    }

    int lamp(int lamp, int what) {
        if (!isLamp(lamp)) {
            return UNKNOWN;
        }
        int bits = 0;
        switch (what) {
            case 0:
                return "lwtdh".indexOf(lamps[lamp].charAt(0));
            case 1:
                return holds(lamp);
            case 2:
                return now.lit[lamp];
            case 3:
                for (int section = 0; section < lamps.length; section++) {
                    bits += sees(lamp, section) ? Math.pow(2, section) : 0;
                }
                return bits;
            case 4:
                for (int person = 0; person < now.people.size(); person++) {
                    bits += now.people.get(person)[0] == lamp ? Math.pow(2, person) : 0;
                }
                return bits;
            case 5:
                return seers(lamp);
            default:
                return OUTSIDE;
        }
    }

    int as(int lamp, int kind) {
        if (!isLamp(lamp)) {
            return UNKNOWN;
        }
        if (kind < 0 || kind > 4) {
            return OUTSIDE;
        }
        String[] takenAs = {"lwtdh", "wh", "t", "d", "h"};
        return takenAs[kind].indexOf(lamps[lamp].charAt(0)) < 0 ? NONE : lamp;
    }

    int person(int section) {
        if (!isLamp(section)) {
            return UNKNOWN;
        }
        if (now.people.size() == 4) {
            return FULL;
        }
        now.people.add(new int[] {section, 0, 0});
        return now.people.size() - 1;
    }

    int about(int person, int what) {
        if (!isPerson(person)) {
            return UNKNOWN;
        }
        int[] one = now.people.get(person);
        switch (what) {
            case 0:
                return one[0];
            case 1:
                return now.lit[one[0]] > 0 ? 1 : 0;
            case 2:
                return one[1];
            case 3:
                return one[2];
            default:
                return OUTSIDE;
        }
    }

    int move(int person, int section) {
        if (!isPerson(person) || !isLamp(section)) {
            return UNKNOWN;
        }
        int from = now.people.get(person)[0];
        now.people.get(person)[0] = section;
        return from;
    }

    private int[] next(int[] lit, List<Integer> waving) {
        int[] next = lit.clone();
        for (int lamp = 0; lamp < lit.length; lamp++) {
            boolean seen = false;
            for (int section : waving) {
                seen |= sees(lamp, section);
            }
            if (seen) {
                next[lamp] = holds(lamp);
            } else if (lit[lamp] > 0) {
                next[lamp] = lit[lamp] - 1;
            }
        }
        return next;
    }

    private List<Integer> sectionsOf(int who) {
        List<Integer> sections = new ArrayList<>();
        for (int person = 0; person < now.people.size(); person++) {
            if ((who & 1 << person) != 0) {
                sections.add(now.people.get(person)[0]);
            }
        }
        return sections;
    }

    private int inDark(int[] lit) {
        int many = 0;
        for (int[] one : now.people) {
            many += lit[one[0]] == 0 ? 1 : 0;
        }
        return many;
    }

    private static int litMany(int[] lit) {
        int many = 0;
        for (int left : lit) {
            many += left > 0 ? 1 : 0;
        }
        return many;
    }

    int minute(int who) {
        if (who < 0 || who >= Math.pow(2, now.people.size())) {
            return OUTSIDE;
        }
        if (lamps.length == 0) {
            return STATE;
        }
        now.lit = next(now.lit, sectionsOf(who));
        now.minutes++;
        for (int person = 0; person < now.people.size(); person++) {
            int[] one = now.people.get(person);
            one[1] += (who & 1 << person) != 0 ? 1 : 0;
            one[2] += now.lit[one[0]] == 0 ? 1 : 0;
        }
        return inDark(now.lit);
    }

    int least(int minutes, int what) {
        if (minutes < 1 || minutes > 3 || what != 0 && what != 10 && what != 11 && what != 12) {
            return OUTSIDE;
        }
        if (lamps.length == 0) {
            return STATE;
        }
        int groups = 1 << now.people.size();
        int plans = (int) Math.pow(groups, minutes);
        int[] best = null;
        int fewest = 99;
        for (int number = 0; number < plans; number++) {
            int[] plan = new int[minutes];
            int rest = number;
            int waves = 0;
            for (int minute = minutes - 1; minute >= 0; minute--) {
                plan[minute] = rest % groups;
                rest /= groups;
                waves += Integer.bitCount(plan[minute]);
            }
            if (waves < fewest && nobodyInDark(plan)) {
                best = plan;
                fewest = waves;
            }
        }
        if (what == 0) {
            return fewest;
        }
        return what - 10 < minutes ? best[what - 10] : NONE;
    }

    private boolean nobodyInDark(int[] plan) {
        int[] lit = now.lit;
        for (int who : plan) {
            lit = next(lit, sectionsOf(who));
            if (inDark(lit) > 0) {
                return false;
            }
        }
        return true;
    }

    int round(int section, int what) {
        if (!isLamp(section)) {
            return UNKNOWN;
        }
        if (what != 0 && (what < 10 || what > 16)) {
            return OUTSIDE;
        }
        if (rounds == 20) {
            return STATE;
        }
        rounds++;
        for (int minutes = 1; minutes <= 7; minutes++) {
            for (int number = 0; number < Math.pow(3, minutes); number++) {
                int[] steps = new int[minutes];
                int rest = number;
                for (int minute = minutes - 1; minute >= 0; minute--) {
                    steps[minute] = rest % 3;
                    rest /= 3;
                }
                if (lightsAll(section, steps)) {
                    return what == 0 ? minutes : what - 10 < minutes ? steps[what - 10] : NONE;
                }
            }
        }
        return NONE;
    }

    private boolean lightsAll(int section, int[] steps) {
        int[] lit = now.lit;
        int where = section;
        for (int step : steps) {
            lit = next(lit, List.of(where));
            where += step - 1;
            if (!isLamp(where)) {
                return false;
            }
        }
        return litMany(lit) == lamps.length;
    }

    int together(int what) {
        if (what != 0 && what != 1) {
            return OUTSIDE;
        }
        if (lamps.length == 0) {
            return STATE;
        }
        int best = lamps.length - 1;
        for (int section = lamps.length - 1; section >= 0; section--) {
            best = seers(section) >= seers(best) ? section : best;
        }
        return what == 0 ? best : seers(best);
    }

    int book(int minutes, int lamp, boolean lit) {
        if (minutes < 0 || minutes > 6) {
            return OUTSIDE;
        }
        if (!isLamp(lamp)) {
            return UNKNOWN;
        }
        if (now.book.size() == 8) {
            return FULL;
        }
        now.book.add(new Told(minutes, lamp, lit));
        return now.book.size();
    }

    int forget() {
        int had = now.book.size();
        now.book.clear();
        return had;
    }

    /** The ways that the book leaves: each as its number and how long each lamp is lit at its end. */
    private List<int[][]> ways(int person, int minutes) {
        List<int[][]> ways = new ArrayList<>();
        for (int number = 0; number < 1 << minutes; number++) {
            int[][] behind = new int[minutes + 1][];
            behind[0] = now.lit;
            for (int minute = 1; minute <= minutes; minute++) {
                boolean waves = (number & 1 << minute - 1) != 0;
                behind[minute] = next(behind[minute - 1], sectionsOf(waves ? 1 << person : 0));
            }
            boolean so = true;
            for (Told told : now.book) {
                so &= told.minutes > minutes || behind[told.minutes][told.lamp] > 0 == told.lit;
            }
            if (so) {
                ways.add(new int[][] {{number}, behind[minutes]});
            }
        }
        return ways;
    }

    int waved(int person, int minutes, int what) {
        if (!isPerson(person)) {
            return UNKNOWN;
        }
        if (minutes < 1 || minutes > 6 || what != 0 && what != 1) {
            return OUTSIDE;
        }
        List<int[][]> ways = ways(person, minutes);
        if (what == 0) {
            return ways.size();
        }
        return ways.isEmpty() ? NONE : ways.get(0)[0][0];
    }

    int look(int person, int minutes) {
        if (!isPerson(person)) {
            return UNKNOWN;
        }
        if (minutes < 1 || minutes > 6) {
            return OUTSIDE;
        }
        List<int[][]> ways = ways(person, minutes);
        int best = NONE;
        int fewest = 0;
        for (int lamp = lamps.length - 1; lamp >= 0; lamp--) {
            int lit = 0;
            int dark = 0;
            for (int[][] way : ways) {
                lit += way[1][lamp] > 0 ? 1 : 0;
                dark += way[1][lamp] > 0 ? 0 : 1;
            }
            int worst = Math.max(lit, dark);
            if (best == NONE || worst <= fewest) {
                best = lamp;
                fewest = worst;
            }
        }
        return ways.isEmpty() ? NONE : best;
    }

    int nights(int minutes, int seed, int what) {
        if (minutes < 1 || minutes > 60 || seed < 0 || what < 0 || what > 2) {
            return OUTSIDE;
        }
        if (lamps.length == 0) {
            return STATE;
        }
        BigInteger drawn = BigInteger.valueOf(seed);
        int[] lit = now.lit;
        int dark = 0;
        for (int minute = 0; minute < minutes; minute++) {
            List<Integer> waving = new ArrayList<>();
            for (int[] one : now.people) {
                drawn = drawn.multiply(BigInteger.valueOf(1103515245)).add(BigInteger.valueOf(12345))
                        .mod(BigInteger.TWO.pow(31));
                if (drawn.divide(BigInteger.valueOf(65536)).mod(BigInteger.valueOf(6)).signum() == 0) {
                    waving.add(one[0]);
                }
            }
            lit = next(lit, waving);
            dark += inDark(lit);
        }
        return what == 0 ? dark : what == 1 ? litMany(lit) : drawn.intValueExact();
    }

    int image() {
        if (lamps.length == 0) {
            return STATE;
        }
        kept = now.copy();
        return now.minutes;
    }

    int restore() {
        if (kept == null) {
            return STATE;
        }
        now = kept.copy();
        return now.minutes;
    }

    int count(int what) {
        int waves = 0;
        int darks = 0;
        for (int[] one : now.people) {
            waves += one[1];
            darks += one[2];
        }
        int light = now.people.size() - inDark(now.lit);
        int[] answers = {lamps.length, litMany(now.lit), now.people.size(), light, now.minutes, waves, darks,
            now.book.size(), page.length(), read, rounds};
        return what < 0 || what > 10 ? OUTSIDE : answers[what];
    }

    long digest() {
        List<Integer> numbers = new ArrayList<>();
        for (int lamp = 0; lamp < lamps.length; lamp++) {
            for (int what = 0; what <= 5; what++) {
                numbers.add(lamp(lamp, what));
            }
        }
        for (int person = 0; person < now.people.size(); person++) {
            for (int what = 0; what <= 3; what++) {
                numbers.add(about(person, what));
            }
            numbers.addAll(List.of(waved(person, 4, 0), waved(person, 4, 1), look(person, 3)));
        }
        if (lamps.length > 0) {
            numbers.addAll(List.of(least(2, 0), least(2, 10), least(2, 11), together(0), together(1)));
        }
        for (char each : page.toCharArray()) {
            numbers.add((int) each);
        }
        for (int what = 0; what <= 10; what++) {
            numbers.add(count(what));
        }
        long h = 911;
        for (int number : numbers) {
            h = 31 * h + number;
        }
        return h;
    }
}
