/** Counts the answers that are not due, and makes offices from texts. */
final class Checks {
    private final String name;
    private int asked;
    private int wrong;

    Checks(String name) {
        this.name = name;
    }

    void due(String call, long got, long want) {
        asked++;
        if (got != want) {
            wrong++;
            System.out.println(name + ": " + call + " answered " + got + ", due is " + want);
        }
    }

    void end() {
        System.out.println(name + ": " + asked + " answers, " + wrong + " not as due");
        if (asked == 0 || wrong != 0) {
            System.exit(1);
        }
    }

    static void write(DarkOffice x, String text) {
        for (int place = 0; place < text.length(); place++) {
            x.letter(text.charAt(place));
        }
    }

    /** An office of a text, with people in these sections. */
    static DarkOffice office(String text, int... sections) {
        DarkOffice x = new DarkOffice();
        write(x, text);
        x.office();
        for (int section : sections) {
            x.person(section);
        }
        return x;
    }
}
