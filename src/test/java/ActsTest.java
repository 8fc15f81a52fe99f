/** Promises 15 to 19 and 41 to 44: acts, the seed, acts undone and the image. */
public final class ActsTest {
    private static final String FOUR = "land;person 0 wave rank 0 bent 50;person 0 hand rank 0 bent 50;person 0 embrace rank 0 bent 50;"
        + "person 0 kiss 2 left rank 0 bent 50;tie 0 1;tie 1 2;tie 2 3";

    public static void main(String[] args) {
        own();
        cold();
        ties();
        manyTies();
        cut();
        feast();
        seed();
        undo();
        undoesAll();
        latestTwo();
        latestButOne();
        wholeLog();
        thirteenth();
        image();
        Checks.finish();
    }

    private static void own() {
        CheekTown x = Checks.townOf(FOUR);
        Checks.due("own(3, 31)", x.own(3, 31), 18);
        Checks.due("own(3, 0)", x.own(3, 0), 31);
        Checks.due("OWN", x.person(3, 1), 0);
        Checks.due("own as it is", x.own(3, 0), 0);
        Checks.due("is an act too", x.count(13), 3);
        Checks.thrown("own of nobody", Checks.INDEX, () -> x.own(4, 0));
        Checks.thrown("own of nobody", Checks.INDEX, () -> x.own(-1, 0));
        Checks.thrown("own of no greeting", Checks.INDEX, () -> x.own(0, 32));
        Checks.thrown("own of no greeting", Checks.INDEX, () -> x.own(0, -1));
        Checks.due("what throws is none", x.count(13), 3);
    }

    private static void cold() {
        CheekTown x = Checks.townOf(FOUR);
        Checks.due("a cold comes", x.cold(1, true), false);
        Checks.due("and again", x.cold(1, true), true);
        Checks.due("colds", x.count(11), 2);
        Checks.due("it goes", x.cold(1, false), true);
        Checks.due("and again", x.cold(1, false), false);
        Checks.due("colds", x.count(11), 0);
        Checks.due("acts", x.count(13), 4);
        Checks.thrown("nobody's cold", Checks.INDEX, () -> x.cold(4, true));
        Checks.thrown("nobody's cold", Checks.INDEX, () -> x.cold(-1, false));
    }

    private static void ties() {
        CheekTown x = Checks.townOf(FOUR);
        Checks.due("a tie", x.ties(3, 0), 3);
        Checks.due("as it was told", x.tie(3, false), 3);
        Checks.due("as it was told", x.tie(3, true), 0);
        Checks.due("whom 0 is tied to", x.person(0, 5), 10);
        Checks.thrown("tied already", Checks.STATE, () -> x.ties(3, 0));
        Checks.thrown("tied already, the other way", Checks.STATE, () -> x.ties(0, 3));
        Checks.thrown("tied by a text", Checks.STATE, () -> x.ties(2, 1));
        Checks.thrown("both are one", Checks.ARGUMENT, () -> x.ties(2, 2));
        Checks.thrown("nobody", Checks.INDEX, () -> x.ties(4, 0));
        Checks.thrown("nobody", Checks.INDEX, () -> x.ties(0, 4));
        Checks.thrown("nobody twice", Checks.INDEX, () -> x.ties(-1, -1));
        Checks.due("one act", x.count(13), 1);
        Checks.due("ties", x.count(3), 4);
    }

    private static void manyTies() {
        String person = "person 0 wave rank 0 bent 0";
        CheekTown x = Checks.townOf("land", person + (";" + person).repeat(9));
        int tied = 0;
        for (int p = 0; p < 10; p++) {
            for (int q = p + 1; q < 10 && tied < 24; q++) {
                Checks.due("ties", x.ties(p, q), tied);
                tied++;
            }
        }
        Checks.thrown("a 25th", Checks.UNSUPPORTED, () -> x.ties(8, 9));
        Checks.thrown("tied already goes ahead", Checks.STATE, () -> x.ties(1, 0));
        Checks.thrown("both are one goes ahead", Checks.ARGUMENT, () -> x.ties(1, 1));
        Checks.thrown("nobody goes ahead", Checks.INDEX, () -> x.ties(10, 0));
        Checks.due("cut", x.cut(23), 23);
        Checks.due("one more", x.ties(8, 9), 23);
    }

    private static void cut() {
        CheekTown x = Checks.townOf(FOUR);
        Checks.due("cut(1)", x.cut(1), 2);
        Checks.due("the first one stays", x.tie(0, true), 1);
        Checks.due("the one behind has a number less", x.tie(1, false), 2);
        Checks.due("the one behind has a number less", x.tie(1, true), 3);
        Checks.due("tied no more", x.person(1, 5), 1);
        Checks.due("tied no more", x.person(2, 5), 8);
        Checks.thrown("cut(2)", Checks.INDEX, () -> x.cut(2));
        Checks.thrown("cut(-1)", Checks.INDEX, () -> x.cut(-1));
        Checks.due("tied anew", x.ties(2, 1), 2);
        Checks.due("cut(0)", x.cut(0), 2);
        Checks.due("cut(0)", x.cut(0), 1);
        Checks.due("cut(0)", x.cut(0), 0);
        Checks.thrown("cut of none", Checks.INDEX, () -> x.cut(0));
        Checks.due("undo", x.undo(), true);
        Checks.due("the tie is back", x.tie(0, false), 2);
        Checks.due("whom one is tied to is back", x.person(1, 5), 4);
    }

    private static void feast() {
        CheekTown x = Checks.townOf(FOUR);
        Checks.due("feast of 0, 1, 3 and of none", x.feast(-5, 8), 9);
        Checks.due("OWN of 0", x.person(0, 1), 8);
        Checks.due("OWN of 2", x.person(2, 1), 24);
        Checks.due("OWN of 3", x.person(3, 1), 8);
        Checks.due("all have it", x.feast(11, 8), 0);
        Checks.due("of nobody", x.feast(0, 8), 0);
        Checks.due("of none that there is", x.feast(~15, 0), 0);
        Checks.due("each is an act", x.count(13), 4);
        Checks.thrown("no greeting", Checks.INDEX, () -> x.feast(15, 32));
        Checks.thrown("no greeting", Checks.INDEX, () -> x.feast(15, -1));
        Checks.due("greeting 31", x.feast(15, 31), 15);
    }

    private static void seed() {
        CheekTown x = Checks.townOf(FOUR);
        Checks.due("seed at first", x.seed(-7), 1);
        Checks.due("any int", x.seed(Integer.MIN_VALUE), -7);
        Checks.due("any int", x.seed(3), Integer.MIN_VALUE);
        Checks.due("no act", x.count(13), 0);
        x.meet(0, 1);
        Checks.due("drawn on from 3", x.seed(9) != 3, true);
        Checks.due("undone", x.undo(), true);
        Checks.due("the SEED as ahead of the act", x.seed(3), 3);
        x.meet(0, 1);
        int costs = x.log(0, 7);
        x.undo();
        x.meet(0, 1);
        Checks.due("the same draws again", x.log(0, 7), costs);
    }

    private static void undo() {
        CheekTown x = Checks.townOf(FOUR);
        Checks.due("nothing to undo", x.undo(), false);
        x.own(0, 8);
        x.cold(2, true);
        x.ties(0, 2);
        x.cut(0);
        x.feast(15, 31);
        x.rounds(3);
        x.meet(0, 3);
        Checks.due("seven acts", x.count(13), 7);
        x.undo();
        Checks.due("the meeting is undone", x.count(7), 9);
        x.undo();
        Checks.due("the rounds are undone", x.count(7), 0);
        x.undo();
        Checks.due("the feast is undone", x.person(3, 1), 18);
        x.undo();
        Checks.due("the cut is undone", x.tie(0, true), 1);
        x.undo();
        Checks.due("the tie is undone", x.count(3), 3);
        x.undo();
        Checks.due("the cold is undone", x.count(11), 0);
        x.undo();
        Checks.due("OWN is undone", x.person(0, 1), 0);
        Checks.due("no more", x.undo(), false);
        Checks.due("none are left", x.count(13), 0);
    }

    private static void undoesAll() {
        CheekTown x = Checks.townOf(FOUR);
        x.rounds(1);
        int[] counts = new int[17];
        for (int what = 0; what < 17; what++) {
            counts[what] = x.count(what);
        }
        int began = x.log(0, 3);
        int sawBefore = x.saw(1, 2, false);
        Checks.feed(x, "nonsense");
        x.cold(3, true);
        x.undo();
        x.rounds(50);
        Checks.due("the tape stays", x.end(8), true);
        x.undo();
        for (int what = 0; what < 17; what++) {
            Checks.due("as ahead of it: count(" + what + ")", x.count(what), counts[what]);
        }
        Checks.due("the log", x.log(0, 3), began);
        Checks.due("the log", x.log(3, 0), -1);
        Checks.due("what one saw", x.saw(1, 2, false), sawBefore);
        Checks.due("how often they met", x.saw(1, 2, true), 1);
        Checks.due("the tape stays", x.end(9), false);
        Checks.due("the tape stays", x.end(8), true);
        x.own(0, 3);
        Checks.thrown("law", Checks.ARGUMENT, x::law);
        Checks.due("fault", x.fault(), 0);
        x.image();
        x.undo();
        Checks.due("fault stays", x.fault(), 0);
        x.back();
        Checks.due("the image stays", x.person(0, 1), 3);
    }

    /** What one saw at both latest times is kept too. */
    private static void latestTwo() {
        CheekTown x = Checks.townOf("land;person 0 wave rank 0 bent 0;person 0 hand rank 0 bent 0;tie 0 1");
        Checks.law(x, "wave if who < 1;hand");
        x.meet(0, 1);
        x.meet(0, 1);
        x.image();
        x.meet(0, 1);
        Checks.due("the third time", x.person(0, 1), 8);
        x.undo();
        Checks.due("undone", x.person(0, 1), 0);
        x.meet(0, 1);
        Checks.due("the third time again", x.person(0, 1), 8);
        x.back();
        Checks.due("gone back", x.person(0, 1), 0);
        Checks.due("a trial of a third time", x.trial(1, 2), 2);
        x.own(1, 8);
        x.meet(1, 0);
        Checks.due("the third time once more", x.person(0, 1), 8);
    }

    private static void latestButOne() {
        CheekTown x = Checks.townOf("land;person 0 wave rank 0 bent 0;person 0 hand rank 0 bent 0");
        Checks.law(x, "wave if who < 1;embrace if met < 1;hand");
        x.meet(0, 1);
        x.meet(0, 1);
        x.image();
        x.meet(0, 1);
        x.undo();
        x.meet(0, 1);
        Checks.due("embrace, hand, hand, behind an undo", x.person(0, 1), 0);
        x.back();
        x.meet(0, 1);
        Checks.due("embrace, hand, hand, behind a back", x.person(0, 1), 0);
        x.meet(0, 1);
        Checks.due("embrace, hand, hand, hand", x.person(0, 1), 8);
    }

    /** All rows of the log come back, also those that newer ones were written over. */
    private static void wholeLog() {
        for (int what = 0; what < 8; what++) {
            wholeLogOf(what);
        }
    }

    private static void wholeLogOf(int what) {
        CheekTown x = Checks.townOf(FOUR);
        for (int i = 0; i < 50; i++) {
            x.meet(i % 3, 3);
        }
        x.image();
        int[] rows = new int[61];
        for (int ago = 0; ago <= 60; ago++) {
            rows[ago] = x.log(ago, what);
        }
        x.rounds(50);
        x.rounds(1);
        for (int i = 0; i < 2; i++) {
            x.undo();
        }
        for (int ago = 0; ago <= 60; ago++) {
            Checks.due("undone: log(" + ago + ", " + what + ")", x.log(ago, what), rows[ago]);
        }
        x.rounds(30);
        x.back();
        for (int ago = 0; ago <= 60; ago++) {
            Checks.due("gone back: log(" + ago + ", " + what + ")", x.log(ago, what), rows[ago]);
        }
    }

    private static void thirteenth() {
        CheekTown x = Checks.townOf(FOUR);
        for (int i = 0; i < 13; i++) {
            x.own(0, i + 1);
        }
        Checks.due("12 are remembered", x.count(13), 12);
        Checks.due("undo", x.undo(), true);
        Checks.due("11 are left, the first came not back", x.count(13), 11);
        Checks.due("OWN", x.person(0, 1), 12);
        for (int i = 10; i >= 0; i--) {
            Checks.due("undo", x.undo(), true);
            Checks.due("acts", x.count(13), i);
        }
        Checks.due("OWN behind the first act", x.person(0, 1), 1);
        Checks.due("no more", x.undo(), false);
        for (int i = 0; i < 30; i++) {
            x.own(0, i + 1);
        }
        for (int i = 29; i >= 18; i--) {
            x.undo();
            Checks.due("OWN", x.person(0, 1), i);
        }
        Checks.due("no more than 12", x.undo(), false);
    }

    private static void image() {
        CheekTown x = Checks.townOf(FOUR);
        Checks.due("none kept", x.back(), false);
        x.own(0, 5);
        Checks.due("a back without an image is nothing", x.count(13), 1);
        x.seed(77);
        x.image();
        Checks.due("the image forgets no act", x.count(13), 1);
        Checks.town(x, "land;person 1 wave rank 3 bent 3;tie 4 0;stomach 1;habit 1 wave weight 4");
        Checks.law(x, "embrace");
        x.rounds(9);
        x.seed(1);
        Checks.feed(x, "land;");
        Checks.due("back", x.back(), true);
        int[] counts = {1, 0, 4, 3, 1, -1, 0, 0, 0, 0, 0, 0, 0, 0, 10, 2, 5};
        for (int what = 0; what < counts.length; what++) {
            Checks.due("gone back: count(" + what + ")", x.count(what), counts[what]);
        }
        Checks.due("OWN", x.person(0, 1), 5);
        Checks.due("ties", x.person(0, 5), 2);
        Checks.due("SEED", x.seed(77), 77);
        Checks.due("none are remembered", x.undo(), false);
        Checks.due("the tape stays", x.end(6), false);
        Checks.thrown("the tape stays", Checks.ARGUMENT, x::town);
        Checks.due("its fault", x.fault(), 5);
        x.cold(1, true);
        Checks.due("back once more", x.back(), true);
        Checks.due("no cold", x.count(11), 0);
        Checks.due("fault stays", x.fault(), 5);
        Checks.town(x, "person 0 hand rank 1 bent 1");
        Checks.due("a new person met nobody", x.person(4, 6), 0);
        Checks.due("a new person saw nothing", x.saw(4, 0, false), -1);
        Checks.due("a new person is tied to nobody", x.person(4, 5), 0);
        x.image();
        x.own(1, 2);
        x.back();
        Checks.due("the latest image counts", x.count(2), 5);
    }
}
