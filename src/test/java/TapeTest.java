/** Promises 1 to 3: a new object, feed and end. */
public final class TapeTest {
    public static void main(String[] args) {
        newObject();
        feed();
        order();
        end();
        cutOff();
        usedUp();
        Checks.finish();
    }

    private static void newObject() {
        CheekTown x = new CheekTown();
        int[] counts = {0, 0, 0, 0, 0, -1, 0, 0, 0, 0, 0, 0, 0, 0, 10, 2, 5};
        for (int what = 0; what < counts.length; what++) {
            Checks.due("new: count(" + what + ")", x.count(what), counts[what]);
        }
        Checks.due("new: fault()", x.fault(), -1);
        Checks.due("new: undo()", x.undo(), false);
        Checks.due("new: back()", x.back(), false);
        Checks.due("new: seed(1)", x.seed(1), 1);
        Checks.due("new: log(0, 7)", x.log(0, 7), -1);
        Checks.thrown("new: person(0, 0)", Checks.INDEX, () -> x.person(0, 0));
        Checks.thrown("new: best(0)", Checks.INDEX, () -> x.best(0));
        Checks.thrown("new: tie(0, false)", Checks.INDEX, () -> x.tie(0, false));
    }

    private static void feed() {
        CheekTown x = new CheekTown();
        for (int i = 1; i <= 20; i++) {
            Checks.due("feed " + i, x.feed(0, 0, 0, 0, 0), 20 * i);
        }
        Checks.due("feed of a full tape", x.feed(0, 0, 0, 0, 0), -1);
        Checks.due("none came", x.end(401), false);
        Checks.due("all 400 are there", x.end(400), true);
        Checks.due("end(381)", x.end(381), true);
        Checks.due("feed that would make 401", x.feed(0, 0, 0, 0, 0), -1);
        Checks.due("still 381", x.end(382), false);
        Checks.due("end(380)", x.end(380), true);
        Checks.due("feed that makes 400", x.feed(0, 0, 0, 0, 0), 400);
    }

    private static void order() {
        // l a n d ; the first number's highest byte comes first
        CheekTown x = new CheekTown();
        x.feed('l' << 24 | 'a' << 16 | 'n' << 8 | 'd', ';' << 24 | 'l' << 16 | 'a' << 8 | 'n', 'd' << 24 | ';' << 16 | 'a' << 8 | 'i',
            'r' << 24 | ' ' << 16 | '9' << 8 | ' ', ' ' << 24 | ' ' << 16 | ' ' << 8 | ' ');
        Checks.due("town of the bytes in order", x.town(), 1);
        Checks.due("two lands", x.count(0), 2);
        Checks.due("air 9", x.count(15), 9);
        // bytes above 127 are no blanks, and are what they are
        x.feed(0xFF200000, 0, 0, 0, 0);
        x.end(2);
        Checks.thrown("law of a byte 255", Checks.ARGUMENT, x::law);
        Checks.due("fault of a byte 255", x.fault(), 0);
        x.feed(0x1F000000, 0x001F0000, 0, 0, 0);
        x.end(1);
        Checks.due("from of 31, nobody there", x.from(false), 0);
    }

    private static void end() {
        CheekTown x = new CheekTown();
        Checks.due("end(0) of none", x.end(0), true);
        Checks.due("end(1) of none", x.end(1), false);
        Checks.due("end(-1)", x.end(-1), false);
        x.feed(1, 2, 3, 4, 5);
        Checks.due("end(21) of 20", x.end(21), false);
        Checks.due("end(-1) of 20", x.end(-1), false);
        Checks.due("end(least) of 20", x.end(Integer.MIN_VALUE), false);
        Checks.due("end(20) of 20", x.end(20), true);
        Checks.due("end(7) of 20", x.end(7), true);
        Checks.due("end(8) of 7", x.end(8), false);
        Checks.due("feed behind 7", x.feed(0, 0, 0, 0, 0), 27);
        Checks.due("end(0)", x.end(0), true);
        Checks.due("feed behind 0", x.feed(0, 0, 0, 0, 0), 20);
    }

    /** What once stood behind the tape's end is no part of a text. */
    private static void cutOff() {
        CheekTown x = new CheekTown();
        Checks.feed(x, "air 99;land");
        x.end(5);
        x.town();
        Checks.due("air 9", x.count(15), 9);
        Checks.due("no land", x.count(0), 0);
        Checks.feed(x, "waves");
        x.end(4);
        Checks.due("wave", x.law(), 1);
        Checks.feed(x, "wave;hug");
        x.end(5);
        Checks.thrown("more must come", Checks.ARGUMENT, x::law);
        Checks.due("fault", x.fault(), 5);
        Checks.feed(x, "wave if same");
        x.end(11);
        Checks.thrown("sam", Checks.ARGUMENT, x::law);
        Checks.due("fault", x.fault(), 8);
    }

    private static void usedUp() {
        CheekTown x = new CheekTown();
        Checks.feed(x, "land");
        x.town();
        Checks.due("town uses the tape up", x.end(1), false);
        Checks.feed(x, "nonsense");
        Checks.thrown("town of nonsense", Checks.ARGUMENT, x::town);
        Checks.due("a refused town uses the tape up", x.end(1), false);
        Checks.feed(x, "wave");
        x.law();
        Checks.due("law uses the tape up", x.end(1), false);
        Checks.feed(x, "nonsense");
        Checks.thrown("law of nonsense", Checks.ARGUMENT, x::law);
        Checks.due("a refused law uses the tape up", x.end(1), false);
        Checks.feed(x, "\1");
        x.from(true);
        Checks.due("from uses the tape up", x.end(1), false);
        Checks.feed(x, "\100");
        Checks.thrown("from of 64", Checks.ARGUMENT, () -> x.from(true));
        Checks.due("a refused from uses the tape up", x.end(1), false);
        Checks.feed(x, "land");
        x.count(0);
        x.back();
        x.undo();
        Checks.due("other calls leave the tape", x.end(4), true);
        x.image();
        x.back();
        Checks.due("the image leaves the tape", x.end(4), true);
    }
}
