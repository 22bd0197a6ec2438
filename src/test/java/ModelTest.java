import java.util.Random;

/** All promises: runs of calls, drawn by fixed seeds, on the class and on PlainOffice; all answers must be the same. */
public final class ModelTest {
    private static final Checks CHECKS = new Checks("ModelTest");
    private static final int RUNS = 400;
    private static final int CALLS = 512;
    private static final int[] ODD = {-1, -2, 5, 7, 8, 33, 100, Integer.MIN_VALUE, Integer.MAX_VALUE};

    private final Random random;
    private final DarkOffice x = new DarkOffice();
    private final PlainOffice plain = new PlainOffice();
    private final int run;
    private int calls;

    private ModelTest(int run) {
        this.run = run;
        random = new Random(run);
    }

    public static void main(String[] args) {
        for (int run = 1; run <= RUNS; run++) {
            new ModelTest(run).go();
        }
        CHECKS.end();
    }

    private void go() {
        if (random.nextInt(10) > 0) {
            newOffice();
        }
        while (calls < CALLS) {
            anyCall();
        }
    }

    private void same(String call, long got, long want) {
        calls++;
        CHECKS.due("run " + run + ", call " + calls + ": " + call, got, want);
    }

    /** A number from 0 to most; now and then one that is odd. */
    private int upTo(int most) {
        return random.nextInt(25) == 0 ? ODD[random.nextInt(ODD.length)] : random.nextInt(most + 1);
    }

    private int lampNumber() {
        return upTo(Math.max(0, plain.count(0) - 1));
    }

    private int personNumber() {
        return upTo(Math.max(0, plain.count(2) - 1));
    }

    /** 0, or one of so many from 10 on. */
    private int orMinute(int many) {
        return random.nextInt(3) == 0 ? upTo(0) : upTo(many - 1) + 10;
    }

    private void put(int code) {
        same("letter(" + code + ")", x.letter(code), plain.letter(code));
    }

    private void newOffice() {
        same("blank()", x.blank(), plain.blank());
        int many = 2 + random.nextInt(5);
        // Some offices are of one kind or of one length, so that there are like ones to choose among.
        int kinds = random.nextInt(3) == 0 ? 1 : 5;
        int longest = random.nextInt(2) == 0 ? 3 : 9;
        int kind = random.nextInt(5);
        for (int lamp = 0; lamp < many; lamp++) {
            if (lamp > 0) {
                put(',');
            }
            put("lwtdh".charAt((kind + random.nextInt(kinds)) % 5));
            put('1' + random.nextInt(longest));
        }
        same("fault()", x.fault(), plain.fault());
        same("office()", x.office(), plain.office());
        for (int person = random.nextInt(5); person > 0; person--) {
            int section = random.nextInt(many);
            same("person(" + section + ")", x.person(section), plain.person(section));
        }
    }

    private void anyCall() {
        switch (random.nextInt(30)) {
            case 0, 1 -> put("lwtdh159,,x".charAt(random.nextInt(11)));
            case 2 -> put(random.nextInt(140) - 5);
            case 3 -> same("blank()", x.blank(), plain.blank());
            case 4 -> same("fault()", x.fault(), plain.fault());
            case 5 -> same("office()", x.office(), plain.office());
            case 6 -> lampCall();
            case 7 -> asCall();
            case 8 -> {
                int section = lampNumber();
                same("person(" + section + ")", x.person(section), plain.person(section));
            }
            case 9, 10 -> aboutCall();
            case 11 -> moveCall();
            case 12, 13, 14 -> {
                int who = upTo((1 << plain.count(2)) - 1);
                same("minute(" + who + ")", x.minute(who), plain.minute(who));
            }
            case 15, 16 -> leastCall();
            case 17 -> roundCall();
            case 18 -> {
                int what = upTo(1);
                same("together(" + what + ")", x.together(what), plain.together(what));
            }
            case 19, 20 -> bookCall();
            case 21 -> forgetSeldom();
            case 22, 23 -> wavedCall();
            case 24 -> lookCall();
            case 25 -> nightsCall();
            case 26 -> same("image()", x.image(), plain.image());
            case 27 -> same("restore()", x.restore(), plain.restore());
            case 28 -> {
                int what = upTo(10);
                same("count(" + what + ")", x.count(what), plain.count(what));
            }
            default -> digestOrOffice();
        }
    }

    private void lampCall() {
        int lamp = lampNumber();
        int what = upTo(5);
        same("lamp(" + lamp + ", " + what + ")", x.lamp(lamp, what), plain.lamp(lamp, what));
    }

    private void asCall() {
        int lamp = lampNumber();
        int kind = upTo(4);
        same("as(" + lamp + ", " + kind + ")", x.as(lamp, kind), plain.as(lamp, kind));
    }

    private void aboutCall() {
        int person = personNumber();
        int what = upTo(3);
        same("about(" + person + ", " + what + ")", x.about(person, what), plain.about(person, what));
    }

    private void moveCall() {
        int person = personNumber();
        int section = lampNumber();
        same("move(" + person + ", " + section + ")", x.move(person, section), plain.move(person, section));
    }

    private void leastCall() {
        int minutes = upTo(2) + 1;
        int what = orMinute(3);
        same("least(" + minutes + ", " + what + ")", x.least(minutes, what), plain.least(minutes, what));
    }

    private void roundCall() {
        int section = lampNumber();
        int what = orMinute(7);
        same("round(" + section + ", " + what + ")", x.round(section, what), plain.round(section, what));
    }

    private void bookCall() {
        int minutes = upTo(6);
        int lamp = lampNumber();
        boolean lit = random.nextBoolean();
        same("book(" + minutes + ", " + lamp + ", " + lit + ")", x.book(minutes, lamp, lit),
                plain.book(minutes, lamp, lit));
    }

    private void forgetSeldom() {
        if (random.nextInt(2) == 0) {
            same("forget()", x.forget(), plain.forget());
        }
    }

    private void wavedCall() {
        int person = personNumber();
        int minutes = upTo(5) + 1;
        int what = upTo(1);
        same("waved(" + person + ", " + minutes + ", " + what + ")", x.waved(person, minutes, what),
                plain.waved(person, minutes, what));
    }

    private void lookCall() {
        int person = personNumber();
        int minutes = upTo(5) + 1;
        same("look(" + person + ", " + minutes + ")", x.look(person, minutes), plain.look(person, minutes));
    }

    private void nightsCall() {
        int minutes = upTo(60);
        int seed = random.nextInt();
        seed = random.nextInt(10) == 0 ? seed : seed & Integer.MAX_VALUE;
        int what = upTo(2);
        same("nights(" + minutes + ", " + seed + ", " + what + ")", x.nights(minutes, seed, what),
                plain.nights(minutes, seed, what));
    }

    private void digestOrOffice() {
        if (random.nextInt(6) == 0) {
            newOffice();
        } else {
            same("digest()", x.digest(), plain.digest());
        }
    }
}
