import java.io.IOException;
import java.nio.file.Files;
import java.nio.file.Path;
import java.util.Collections;

/** Counts the answers that are not due, and makes offices from texts. */
final class Checks {
    private static final Path DOCUMENT = Path.of("../shared/DOC.md");

    private final String name;
    private String sentence = "";
    private int sentences;
    private int asked;
    private int wrong;

    Checks(String name) {
        this.name = name;
    }

    /** All that is asked from here on is due by these words; they must stand in the document, where it is at hand. */
    void says(String words) {
        sentence = " [" + words + "]";
        sentences++;
        if (Files.isReadable(DOCUMENT)) {
            due("the document has these words", document().contains(words) ? 1 : 0, 1);
        }
    }

    private static String document() {
        try {
            return Files.readString(DOCUMENT).replaceAll("\\s+", " ");
        } catch (IOException nowhere) {
            return "";
        }
    }

    void due(String call, long got, long want) {
        asked++;
        if (got != want) {
            wrong++;
            System.out.println(name + ":" + sentence + " " + call + " answered " + got + ", due is " + want);
        }
    }

    void end() {
        String of = sentences > 0 ? " by " + sentences + " sentences" : "";
        System.out.println(name + ": " + asked + " answers" + of + ", " + wrong + " not as due");
        if (asked == 0 || wrong != 0) {
            System.exit(1);
        }
    }

    static void write(DarkOffice x, String text) {
        for (int place = 0; place < text.length(); place++) {
            x.letter(text.charAt(place));
        }
    }

    /** An office of a text, with people in these sections. */
    static DarkOffice office(String text, int... sections) {
        DarkOffice x = new DarkOffice();
        write(x, text);
        x.office();
        for (int section : sections) {
            x.person(section);
        }
        return x;
    }

    /** The text of an office of so many lamps, all alike. */
    static String alike(String lamp, int many) {
        return String.join(",", Collections.nCopies(many, lamp));
    }

    /** The digest of these numbers, by promise 23. */
    static long digest(long... numbers) {
        long h = 911;
        for (long number : numbers) {
            h = 31 * h + number;
        }
        return h;
    }
}
