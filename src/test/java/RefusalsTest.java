import java.util.ArrayList;
import java.util.List;
import java.util.function.Supplier;
import java.util.function.ToIntFunction;

/**
 * Refusals of all calls: which one is told where several would be due, and that nothing is changed by it. An object to
 * which a refused call was said is asked the same as one to which it was not, and both go on the same way.
 */
public final class RefusalsTest {
    private static final Checks CHECKS = new Checks("RefusalsTest");
    private static final int UNKNOWN = DarkOffice.UNKNOWN;
    private static final int OUTSIDE = DarkOffice.OUTSIDE;
    private static final int STATE = DarkOffice.STATE;
    private static final int FULL = DarkOffice.FULL;
    /** The call is not refused there, so it is not said. */
    private static final int ANSWERS = 0;
    private static final int MIN = Integer.MIN_VALUE;
    private static final int MAX = Integer.MAX_VALUE;

    public static void main(String[] args) {
        CHECKS.says("Refusals, of several the first as told by each call: UNKNOWN (a number names nothing), OUTSIDE "
                + "(it is not as told), STATE (as told), FULL; they change nothing.");
        office();
        people();
        whatWouldBe();
        book();
        whatIsToldOfAll();
        CHECKS.end();
    }

    private static void office() {
        refused("letter(0)", x -> x.letter(0), OUTSIDE, OUTSIDE, OUTSIDE);
        refused("letter(127)", x -> x.letter(127), OUTSIDE, OUTSIDE, OUTSIDE);
        refused("letter(MIN)", x -> x.letter(MIN), OUTSIDE, OUTSIDE, OUTSIDE);
        refused("letter('l')", x -> x.letter('l'), ANSWERS, ANSWERS, FULL);
        refused("office()", DarkOffice::office, STATE, STATE, STATE);
        refused("lamp(0, 0)", x -> x.lamp(0, 0), UNKNOWN, ANSWERS, ANSWERS);
        refused("lamp(-1, 0)", x -> x.lamp(-1, 0), UNKNOWN, UNKNOWN, UNKNOWN);
        refused("lamp(3, 6)", x -> x.lamp(3, 6), UNKNOWN, UNKNOWN, UNKNOWN);
        refused("lamp(2, 6)", x -> x.lamp(2, 6), UNKNOWN, OUTSIDE, OUTSIDE);
        refused("lamp(0, -1)", x -> x.lamp(0, -1), UNKNOWN, OUTSIDE, OUTSIDE);
        refused("as(3, 5)", x -> x.as(3, 5), UNKNOWN, UNKNOWN, UNKNOWN);
        refused("as(-1, -1)", x -> x.as(-1, -1), UNKNOWN, UNKNOWN, UNKNOWN);
        refused("as(2, 5)", x -> x.as(2, 5), UNKNOWN, OUTSIDE, OUTSIDE);
        refused("as(0, -1)", x -> x.as(0, -1), UNKNOWN, OUTSIDE, OUTSIDE);
    }

    private static void people() {
        refused("person(0)", x -> x.person(0), UNKNOWN, ANSWERS, FULL);
        refused("person(2)", x -> x.person(2), UNKNOWN, ANSWERS, FULL);
        refused("person(3)", x -> x.person(3), UNKNOWN, UNKNOWN, UNKNOWN);
        refused("person(-1)", x -> x.person(-1), UNKNOWN, UNKNOWN, UNKNOWN);
        refused("about(-1, 4)", x -> x.about(-1, 4), UNKNOWN, UNKNOWN, UNKNOWN);
        refused("about(4, 0)", x -> x.about(4, 0), UNKNOWN, UNKNOWN, UNKNOWN);
        refused("about(3, 0)", x -> x.about(3, 0), UNKNOWN, UNKNOWN, ANSWERS);
        refused("about(0, 4)", x -> x.about(0, 4), UNKNOWN, OUTSIDE, OUTSIDE);
        refused("about(0, -1)", x -> x.about(0, -1), UNKNOWN, OUTSIDE, OUTSIDE);
        refused("move(0, 3)", x -> x.move(0, 3), UNKNOWN, UNKNOWN, UNKNOWN);
        refused("move(0, -1)", x -> x.move(0, -1), UNKNOWN, UNKNOWN, UNKNOWN);
        refused("move(4, 0)", x -> x.move(4, 0), UNKNOWN, UNKNOWN, UNKNOWN);
        refused("move(-1, 0)", x -> x.move(-1, 0), UNKNOWN, UNKNOWN, UNKNOWN);
        refused("move(3, 0)", x -> x.move(3, 0), UNKNOWN, UNKNOWN, ANSWERS);
        refused("minute(0)", x -> x.minute(0), STATE, ANSWERS, ANSWERS);
        refused("minute(1)", x -> x.minute(1), OUTSIDE, ANSWERS, ANSWERS);
        refused("minute(5)", x -> x.minute(5), OUTSIDE, OUTSIDE, ANSWERS);
        refused("minute(17)", x -> x.minute(17), OUTSIDE, OUTSIDE, OUTSIDE);
        refused("minute(-1)", x -> x.minute(-1), OUTSIDE, OUTSIDE, OUTSIDE);
        refused("minute(MIN)", x -> x.minute(MIN), OUTSIDE, OUTSIDE, OUTSIDE);
    }

    private static void whatWouldBe() {
        refused("least(1, 0)", x -> x.least(1, 0), STATE, ANSWERS, ANSWERS);
        refused("least(3, 12)", x -> x.least(3, 12), STATE, ANSWERS, ANSWERS);
        refused("least(0, 0)", x -> x.least(0, 0), OUTSIDE, OUTSIDE, OUTSIDE);
        refused("least(4, 10)", x -> x.least(4, 10), OUTSIDE, OUTSIDE, OUTSIDE);
        refused("least(1, 13)", x -> x.least(1, 13), OUTSIDE, OUTSIDE, OUTSIDE);
        refused("least(1, 1)", x -> x.least(1, 1), OUTSIDE, OUTSIDE, OUTSIDE);
        refused("round(0, 0)", x -> x.round(0, 0), UNKNOWN, ANSWERS, STATE);
        refused("round(2, 16)", x -> x.round(2, 16), UNKNOWN, ANSWERS, STATE);
        refused("round(3, 17)", x -> x.round(3, 17), UNKNOWN, UNKNOWN, UNKNOWN);
        refused("round(-1, 0)", x -> x.round(-1, 0), UNKNOWN, UNKNOWN, UNKNOWN);
        refused("round(0, 17)", x -> x.round(0, 17), UNKNOWN, OUTSIDE, OUTSIDE);
        refused("round(0, 9)", x -> x.round(0, 9), UNKNOWN, OUTSIDE, OUTSIDE);
        refused("round(0, -1)", x -> x.round(0, -1), UNKNOWN, OUTSIDE, OUTSIDE);
        refused("together(0)", x -> x.together(0), STATE, ANSWERS, ANSWERS);
        refused("together(2)", x -> x.together(2), OUTSIDE, OUTSIDE, OUTSIDE);
        refused("together(-1)", x -> x.together(-1), OUTSIDE, OUTSIDE, OUTSIDE);
    }

    private static void book() {
        refused("book(0, 0, true)", x -> x.book(0, 0, true), UNKNOWN, ANSWERS, FULL);
        refused("book(6, 2, false)", x -> x.book(6, 2, false), UNKNOWN, ANSWERS, FULL);
        refused("book(6, 3, false)", x -> x.book(6, 3, false), UNKNOWN, UNKNOWN, UNKNOWN);
        refused("book(0, -1, true)", x -> x.book(0, -1, true), UNKNOWN, UNKNOWN, UNKNOWN);
        refused("book(7, 3, true)", x -> x.book(7, 3, true), OUTSIDE, OUTSIDE, OUTSIDE);
        refused("book(-1, 0, true)", x -> x.book(-1, 0, true), OUTSIDE, OUTSIDE, OUTSIDE);
        refused("waved(0, 1, 0)", x -> x.waved(0, 1, 0), UNKNOWN, ANSWERS, ANSWERS);
        refused("waved(4, 0, 2)", x -> x.waved(4, 0, 2), UNKNOWN, UNKNOWN, UNKNOWN);
        refused("waved(-1, 1, 0)", x -> x.waved(-1, 1, 0), UNKNOWN, UNKNOWN, UNKNOWN);
        refused("waved(0, 0, 0)", x -> x.waved(0, 0, 0), UNKNOWN, OUTSIDE, OUTSIDE);
        refused("waved(0, 7, 0)", x -> x.waved(0, 7, 0), UNKNOWN, OUTSIDE, OUTSIDE);
        refused("waved(0, 1, 2)", x -> x.waved(0, 1, 2), UNKNOWN, OUTSIDE, OUTSIDE);
        refused("look(0, 1)", x -> x.look(0, 1), UNKNOWN, ANSWERS, ANSWERS);
        refused("look(4, 7)", x -> x.look(4, 7), UNKNOWN, UNKNOWN, UNKNOWN);
        refused("look(-1, 0)", x -> x.look(-1, 0), UNKNOWN, UNKNOWN, UNKNOWN);
        refused("look(0, 7)", x -> x.look(0, 7), UNKNOWN, OUTSIDE, OUTSIDE);
        refused("look(0, 0)", x -> x.look(0, 0), UNKNOWN, OUTSIDE, OUTSIDE);
        refused("nights(1, 0, 0)", x -> x.nights(1, 0, 0), STATE, ANSWERS, ANSWERS);
        refused("nights(60, MAX, 2)", x -> x.nights(60, MAX, 2), STATE, ANSWERS, ANSWERS);
        refused("nights(0, 0, 0)", x -> x.nights(0, 0, 0), OUTSIDE, OUTSIDE, OUTSIDE);
        refused("nights(61, 0, 0)", x -> x.nights(61, 0, 0), OUTSIDE, OUTSIDE, OUTSIDE);
        refused("nights(1, -1, 0)", x -> x.nights(1, -1, 0), OUTSIDE, OUTSIDE, OUTSIDE);
        refused("nights(1, 0, 3)", x -> x.nights(1, 0, 3), OUTSIDE, OUTSIDE, OUTSIDE);
    }

    private static void whatIsToldOfAll() {
        refused("image()", DarkOffice::image, STATE, ANSWERS, ANSWERS);
        refused("restore()", DarkOffice::restore, STATE, ANSWERS, STATE);
        refused("count(-1)", x -> x.count(-1), OUTSIDE, OUTSIDE, OUTSIDE);
        refused("count(11)", x -> x.count(11), OUTSIDE, OUTSIDE, OUTSIDE);
    }

    /** A call and what is due to a new object, to one in ordinary use, and to one of which all is full. */
    private static void refused(String call, ToIntFunction<DarkOffice> said, int toNew, int toUsed, int toFull) {
        changesNothing(call + " to a new one", RefusalsTest::aNewOne, said, toNew);
        changesNothing(call + " in use", RefusalsTest::inUse, said, toUsed);
        changesNothing(call + " where all is full", RefusalsTest::allFull, said, toFull);
    }

    private static void changesNothing(String call, Supplier<DarkOffice> made, ToIntFunction<DarkOffice> said,
            int want) {
        if (want == ANSWERS) {
            return;
        }
        DarkOffice x = made.get();
        CHECKS.due(call, said.applyAsInt(x), want);
        CHECKS.due(call + " again", said.applyAsInt(x), want);
        List<Long> answers = goesOn(x);
        List<Long> wants = goesOn(made.get());
        for (int place = 0; place < wants.size(); place++) {
            CHECKS.due("behind " + call + ", answer " + place, answers.get(place), wants.get(place));
        }
    }

    private static DarkOffice aNewOne() {
        return new DarkOffice();
    }

    /** Two people, a book, an image, and half an office on the page. */
    private static DarkOffice inUse() {
        DarkOffice x = Checks.office("l3,w2,t4", 0, 2);
        x.minute(1);
        x.book(5, 1, true);
        x.book(2, 0, false);
        x.image();
        x.minute(2);
        x.move(0, 1);
        x.round(0, 0);
        Checks.write(x, "h2,l");
        return x;
    }

    /** Page, people, book and rounds are full; there is no image. */
    private static DarkOffice allFull() {
        DarkOffice x = Checks.office("l3,w2,t4", 0, 2, 1, 1);
        x.minute(5);
        x.minute(2);
        for (int told = 0; told < 8; told++) {
            x.book(1 + told % 6, told % 3, told % 4 > 1);
        }
        for (int time = 0; time < 20; time++) {
            x.round(time % 3, 0);
        }
        Checks.write(x, "l1,l1,l1,l1,l1,l1,l1");
        return x;
    }

    /** All that can be asked, now and as it goes on: the image, the page and another office, too. */
    private static List<Long> goesOn(DarkOffice x) {
        List<Long> answers = new ArrayList<>();
        ask(x, answers);
        answers.add((long) x.letter(44));
        answers.add((long) x.person(1));
        answers.add((long) x.book(6, 0, true));
        answers.add((long) x.round(1, 0));
        answers.add((long) x.minute(1));
        ask(x, answers);
        answers.add((long) x.restore());
        ask(x, answers);
        answers.add((long) x.blank());
        Checks.write(x, "h2,l3");
        answers.add((long) x.office());
        answers.add((long) x.restore());
        answers.add((long) x.person(1));
        ask(x, answers);
        return answers;
    }

    private static void ask(DarkOffice x, List<Long> answers) {
        answers.add(x.digest());
        answers.add((long) x.fault());
        answers.add((long) x.least(3, 0));
        answers.add((long) x.least(3, 12));
        answers.add((long) x.nights(9, 7, 0));
        answers.add((long) x.nights(9, 7, 2));
        for (int person = 0; person < 4; person++) {
            for (int minutes = 1; minutes <= 6; minutes++) {
                answers.add((long) x.waved(person, minutes, 0));
                answers.add((long) x.waved(person, minutes, 1));
                answers.add((long) x.look(person, minutes));
            }
        }
    }
}
