/** Promises 8 to 11: person, about, move, minute. */
public final class PeopleTest {
    private static final Checks CHECKS = new Checks("PeopleTest");

    public static void main(String[] args) {
        person();
        about();
        move();
        minute();
        minuteRefused();
        minuteOfNobody();
        CHECKS.end();
    }

    private static void due(String call, long got, long want) {
        CHECKS.due(call, got, want);
    }

    private static void person() {
        DarkOffice x = Checks.office("l1,l1");
        due("person(2)", x.person(2), DarkOffice.UNKNOWN);
        due("person(-1)", x.person(-1), DarkOffice.UNKNOWN);
        due("person(MIN)", x.person(Integer.MIN_VALUE), DarkOffice.UNKNOWN);
        for (int number = 0; number < 4; number++) {
            due("person " + number, x.person(number % 2), number);
        }
        due("person 4", x.person(0), DarkOffice.FULL);
        due("person 4, nowhere", x.person(2), DarkOffice.UNKNOWN);
        due("count(2)", x.count(2), 4);
        due("lamp(1, 4)", x.lamp(1, 4), 0b1010);
    }

    private static void about() {
        DarkOffice x = Checks.office("l2,l1,l1", 0, 2);
        aboutIs("at first", x, 0, 0, 0, 0, 0);
        aboutIs("at first", x, 1, 2, 0, 0, 0);
        x.minute(0b01);
        aboutIs("minute 1", x, 0, 0, 1, 1, 0);
        aboutIs("minute 1", x, 1, 2, 0, 0, 1);
        x.minute(0b11);
        aboutIs("minute 2", x, 0, 0, 1, 2, 0);
        aboutIs("minute 2", x, 1, 2, 1, 1, 1);
        x.minute(0);
        aboutIs("minute 3", x, 0, 0, 1, 2, 0);
        aboutIs("minute 3", x, 1, 2, 0, 1, 2);
        due("about(2, 0)", x.about(2, 0), DarkOffice.UNKNOWN);
        due("about(-1, 0)", x.about(-1, 0), DarkOffice.UNKNOWN);
        due("about(2, 4)", x.about(2, 4), DarkOffice.UNKNOWN);
        due("about(0, 4)", x.about(0, 4), DarkOffice.OUTSIDE);
        due("about(0, -1)", x.about(0, -1), DarkOffice.OUTSIDE);
    }

    private static void aboutIs(String when, DarkOffice x, int person, int... wants) {
        for (int what = 0; what <= 3; what++) {
            due(when + ": about(" + person + ", " + what + ")", x.about(person, what), wants[what]);
        }
    }

    private static void move() {
        DarkOffice x = Checks.office("l3,l3,l3", 0);
        x.minute(1);
        due("move(0, 2)", x.move(0, 2), 0);
        aboutIs("moved", x, 0, 2, 0, 1, 0);
        due("nothing stirred", x.count(1), 1);
        due("no minute went", x.count(4), 1);
        due("move(0, 2) again", x.move(0, 2), 2);
        due("minute(0) there", x.minute(0), 1);
        due("move(0, 0)", x.move(0, 0), 2);
        due("lit where he was", x.about(0, 1), 1);
        due("move(1, 0)", x.move(1, 0), DarkOffice.UNKNOWN);
        due("move(-1, 0)", x.move(-1, 0), DarkOffice.UNKNOWN);
        due("move(0, 3)", x.move(0, 3), DarkOffice.UNKNOWN);
        due("move(0, -1)", x.move(0, -1), DarkOffice.UNKNOWN);
        due("still there", x.about(0, 0), 0);
    }

    private static void minute() {
        // The wide one sees 0 to 2, the twin 2 and 3.
        DarkOffice x = Checks.office("l1,w3,t2,l2", 0, 1, 2, 3);
        due("minute(0b1000)", x.minute(0b1000), 2);
        litAre(x, 0, 0, 2, 2);
        due("minute(0b0001)", x.minute(0b0001), 0);
        litAre(x, 1, 3, 1, 1);
        due("minute(0)", x.minute(0), 3);
        litAre(x, 0, 2, 0, 0);
        due("minute(0b1111)", x.minute(0b1111), 0);
        litAre(x, 1, 3, 2, 2);
        due("count(5)", x.count(5), 6);
        due("count(6)", x.count(6), 5);
        due("count(4)", x.count(4), 4);
    }

    private static void litAre(DarkOffice x, int... wants) {
        for (int lamp = 0; lamp < wants.length; lamp++) {
            due("minute " + x.count(4) + ": lamp(" + lamp + ", 2)", x.lamp(lamp, 2), wants[lamp]);
        }
    }

    private static void minuteRefused() {
        DarkOffice x = Checks.office("l2,l2", 0, 0);
        x.minute(1);
        long before = x.digest();
        due("minute(4)", x.minute(4), DarkOffice.OUTSIDE);
        due("minute(5)", x.minute(5), DarkOffice.OUTSIDE);
        due("minute(-1)", x.minute(-1), DarkOffice.OUTSIDE);
        due("minute(MIN)", x.minute(Integer.MIN_VALUE), DarkOffice.OUTSIDE);
        due("minute(MAX)", x.minute(Integer.MAX_VALUE), DarkOffice.OUTSIDE);
        due("digest() behind refusals", x.digest(), before);
        due("minute(3)", x.minute(3), 0);
    }

    private static void minuteOfNobody() {
        DarkOffice x = Checks.office("l2,l2");
        due("minute(0) of nobody", x.minute(0), 0);
        due("minute(1) of nobody", x.minute(1), DarkOffice.OUTSIDE);
        due("minutes of nobody", x.count(4), 1);
    }
}
