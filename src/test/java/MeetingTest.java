/** Promises 13, 14 and 40: meetings, rounds and the log. From SEED 1 the draws modulo 100 are 38, 58, 13, 15, 51, 27, 10, 19, 12, 86. */
public final class MeetingTest {
    public static void main(String[] args) {
        draws();
        whoIsAsked();
        half();
        learns();
        colds();
        minutes();
        log();
        rounds();
        wrong();
        Checks.finish();
    }

    private static CheekTown two(String first, String second) {
        return Checks.townOf("land;person 0 " + first + ";person 0 " + second);
    }

    private static void row(String call, CheekTown x, int ago, int... due) {
        for (int what = 0; what < 8; what++) {
            Checks.due(call + ": log(" + ago + ", " + what + ")", x.log(ago, what), due[what]);
        }
    }

    private static void draws() {
        // 38 is below 39, but not below 38
        CheekTown x = two("wave rank 0 bent 39", "hand rank 0 bent 0");
        Checks.due("38 is below 39", x.meet(0, 1), 5);
        row("0 yields", x, 0, 0, 0, 1, 0, 8, 8, 8, 5);
        CheekTown y = two("wave rank 0 bent 38", "hand rank 0 bent 58");
        Checks.due("38 isn't below 38, 58 isn't below 58", y.meet(0, 1), 10);
        row("none yields", y, 0, 0, 0, 1, 0, 8, 0, 8, 10);
        CheekTown z = two("wave rank 0 bent 38", "hand rank 0 bent 59");
        Checks.due("58 is below 59", z.meet(0, 1), 5);
        row("1 yields", z, 0, 0, 0, 1, 0, 8, 0, 0, 5);
        Checks.due("SEED behind two draws", z.seed(0), (1 * 1103515245 + 12345) * 1103515245 + 12345);
        // one draw alone, if the first one asked yields
        Checks.due("SEED behind one draw", x.seed(0), 1103515245 + 12345);
        CheekTown none = two("wave rank 0 bent 100", "wave rank 0 bent 100");
        Checks.due("nothing to yield", none.meet(0, 1), 0);
        Checks.due("no draw", none.seed(0), 1);
        CheekTown zero = two("wave rank 0 bent 0", "hand rank 0 bent 0");
        zero.meet(0, 1);
        Checks.due("a BENT of 0 is drawn for too", zero.seed(7), (1 * 1103515245 + 12345) * 1103515245 + 12345);
        Checks.town(zero, "stomach 0");
        zero.own(0, 0);
        Checks.due("unlike at no COST", zero.meet(0, 1), 0);
        Checks.due("no draw", zero.seed(7), 7);
    }

    private static void whoIsAsked() {
        CheekTown x = two("wave rank 5 bent 100", "hand rank 4 bent 100");
        x.meet(0, 1);
        row("the lesser RANK yields", x, 0, 0, 0, 1, 0, 8, 0, 0, 5);
        CheekTown y = two("wave rank 4 bent 100", "hand rank 5 bent 100");
        y.meet(1, 0);
        row("the lesser RANK yields", y, 0, 0, 0, 1, 0, 8, 8, 8, 5);
        CheekTown z = two("wave rank 4 bent 100", "hand rank 4 bent 100");
        z.meet(1, 0);
        row("a tie: the lesser number", z, 0, 0, 0, 1, 0, 8, 8, 8, 5);
    }

    private static void half() {
        CheekTown x = two("kiss 1 left rank 0 bent 0", "kiss 4 right rank 0 bent 100");
        Checks.due("11, halved", x.meet(0, 1), 5);
        Checks.due("count(8)", x.count(8), 5);
        Checks.due("count(9)", x.count(9), 1);
        Checks.town(x, "stomach 1");
        x.own(0, 0);
        Checks.law(x, "wave if who < 1;hand");
        Checks.due("1, halved", x.meet(0, 1), 0);
        Checks.due("one YIELDED at no COST", x.count(9), 2);
        Checks.due("count(8)", x.count(8), 5);
        Checks.due("count(7)", x.count(7), 2);
    }

    private static void learns() {
        CheekTown x = two("wave rank 0 bent 0", "hand rank 0 bent 0");
        Checks.law(x, "embrace if who > 0;wave");
        for (int i = 1; i <= 3; i++) {
            Checks.due("OWN ahead of meeting " + i, x.person(0, 1), 0);
            Checks.due("COST of meeting " + i, x.meet(0, 1), 10);
            Checks.due("0 saw", x.saw(0, 1, false), 24);
        }
        Checks.due("seen thrice, 0 changes", x.person(0, 1), 24);
        Checks.due("seen thrice, 1 changes", x.person(1, 1), 0);
        x.own(0, 8);
        x.meet(0, 1);
        Checks.due("seen a fourth time, 0 changes again", x.person(0, 1), 24);
        learnsOfWhomever();
    }

    private static void learnsOfWhomever() {
        CheekTown x = Checks.townOf("land;person 0 wave rank 0 bent 0;person 0 hand rank 0 bent 0;person 0 hand rank 0 bent 0;person 0 embrace rank 0 bent 0");
        Checks.law(x, "hand if who > 0 and who < 3;embrace if who > 2;wave");
        x.meet(0, 1);
        x.meet(2, 0);
        x.meet(0, 3);
        Checks.due("hand, hand, embrace", x.person(0, 1), 0);
        x.meet(0, 1);
        x.meet(0, 2);
        Checks.due("embrace, hand, hand", x.person(0, 1), 0);
        x.meet(0, 2);
        Checks.due("hand, hand, hand, of two", x.person(0, 1), 8);
        Checks.due("1 saw two waves alone", x.person(1, 1), 8);
        Checks.due("2 saw three waves", x.person(2, 1), 0);
        Checks.due("what 0 saw of 3", x.saw(0, 3, false), 24);
        Checks.due("what 0 saw of 1", x.saw(0, 1, false), 8);
    }

    private static void colds() {
        CheekTown x = Checks.townOf("land;person 0 wave rank 0 bent 0;person 0 hand rank 0 bent 0;person 0 embrace rank 0 bent 0;person 0 kiss 1 left rank 0 bent 0;cold 1");
        x.meet(0, 1);
        Checks.due("one waved", x.count(11), 2);
        x.meet(3, 2);
        Checks.due("none had one", x.count(11), 2);
        x.meet(1, 2);
        Checks.due("by hand and cheek, from the lesser number", x.count(11), 6);
        x.cold(1, false);
        x.meet(1, 2);
        Checks.due("back again, from the greater number", x.count(11), 6);
        CheekTown y = two("wave rank 0 bent 100", "hand rank 0 bent 0");
        y.cold(0, true);
        y.meet(0, 1);
        Checks.due("what one DID counts, not what one BEGAN with", y.count(11), 3);
        CheekTown z = two("wave rank 0 bent 0", "hand rank 0 bent 100");
        z.cold(0, true);
        z.meet(0, 1);
        Checks.due("both waved at last", z.count(11), 1);
        z.own(0, 7);
        Checks.law(z, "");
        Checks.due("a wave of four and right", z.meet(0, 1), 0);
        CheekTown w = two("wave rank 0 bent 0", "hand rank 0 bent 0");
        w.own(0, 7);
        w.cold(1, true);
        w.meet(0, 1);
        Checks.due("is a wave too", w.count(11), 2);
    }

    private static void minutes() {
        CheekTown x = two("kiss 1 left rank 0 bent 0", "kiss 4 left rank 0 bent 0");
        x.meet(0, 1);
        Checks.due("the greater COUNT of 1 and 4", x.count(10), 4);
        CheekTown y = two("kiss 1 left rank 0 bent 0", "kiss 4 left rank 0 bent 100");
        y.meet(0, 1);
        Checks.due("of what both DID", y.count(10), 1);
        y.meet(0, 1);
        Checks.due("together", y.count(10), 2);
        CheekTown z = two("wave rank 0 bent 0", "wave rank 0 bent 0");
        z.own(1, 5);
        z.meet(0, 1);
        Checks.due("a wave of three", z.count(10), 3);
    }

    private static void log() {
        CheekTown x = Checks.townOf("land;person 0 wave rank 0 bent 0;person 0 hand rank 0 bent 0;person 0 embrace rank 0 bent 0;tie 2 0");
        x.meet(1, 0);
        x.rounds(1);
        x.meet(2, 1);
        row("latest", x, 0, 1, 1, 2, 8, 24, 8, 24, 10);
        row("ahead of it", x, 1, 0, 0, 2, 0, 24, 0, 24, 10);
        row("the first", x, 2, 0, 0, 1, 0, 8, 0, 8, 10);
        for (int what = 0; what < 8; what++) {
            Checks.due("log(3, " + what + ")", x.log(3, what), -1);
            Checks.due("log(-1, " + what + ")", x.log(-1, what), -1);
        }
        for (int wrong : new int[] {-1, 8, Integer.MAX_VALUE, Integer.MIN_VALUE}) {
            Checks.thrown("log(0, " + wrong + ")", Checks.NO_SUCH, () -> x.log(0, wrong));
            Checks.thrown("log(-1, " + wrong + ")", Checks.NO_SUCH, () -> x.log(-1, wrong));
        }
        Checks.due("rows", x.count(12), 3);
        for (int i = 0; i < 60; i++) {
            x.meet(i % 2, 2);
            Checks.due("rows", x.count(12), Math.min(60, 4 + i));
        }
        Checks.due("meetings", x.count(7), 63);
        Checks.due("the latest", x.log(0, 1), 1);
        Checks.due("ago 59", x.log(59, 1), 0);
        Checks.due("ago 59", x.log(59, 2), 2);
        Checks.due("ago 60", x.log(60, 1), -1);
        Checks.due("ago most", x.log(Integer.MAX_VALUE, 1), -1);
        Checks.due("ago least", x.log(Integer.MIN_VALUE, 1), -1);
    }

    private static void rounds() {
        CheekTown x = Checks.townOf("land;person 0 wave rank 0 bent 0;person 0 hand rank 0 bent 0;person 0 embrace rank 0 bent 0;tie 1 2;tie 1 0");
        Checks.law(x, "wave if who < 1;hand if who < 2;embrace");
        Checks.due("two rounds", x.rounds(2), 40);
        Checks.due("ROUND", x.count(6), 2);
        Checks.due("MEETINGS", x.count(7), 4);
        Checks.due("one act", x.count(13), 1);
        row("ties by numbers", x, 0, 1, 0, 1, 0, 8, 0, 8, 10);
        row("ties by numbers", x, 1, 1, 1, 2, 8, 24, 8, 24, 10);
        row("ties by numbers", x, 3, 0, 1, 2, 8, 24, 8, 24, 10);
        Checks.due("fifty", x.rounds(50), 1000);
        Checks.due("ROUND", x.count(6), 52);
        Checks.due("undone as one", x.undo(), true);
        Checks.due("ROUND", x.count(6), 2);
        Checks.due("MEETINGS", x.count(7), 4);
        CheekTown lone = new CheekTown();
        Checks.due("without TIES", lone.rounds(50), 0);
        Checks.due("ROUND goes on", lone.count(6), 50);
        // the law sees the ROUND as it goes on, and a meeting of two alone leaves it
        CheekTown y = two("wave rank 0 bent 0", "hand rank 0 bent 0");
        Checks.law(y, "kiss 1 left if round < 2;kiss 2 left if who < 1;kiss 3 left");
        y.ties(0, 1);
        y.meet(0, 1);
        Checks.due("a meeting is no round", y.count(6), 0);
        Checks.due("COST from ROUND 2 on", y.rounds(4), 4);
    }

    private static void wrong() {
        CheekTown x = two("wave rank 0 bent 0", "hand rank 0 bent 0");
        for (int wrong : new int[] {0, 51, -1, Integer.MAX_VALUE, Integer.MIN_VALUE}) {
            Checks.thrown("rounds(" + wrong + ")", Checks.ARGUMENT, () -> x.rounds(wrong));
        }
        for (int wrong : new int[] {-1, 2, 10, Integer.MAX_VALUE, Integer.MIN_VALUE}) {
            Checks.thrown("meet(" + wrong + ", 0)", Checks.INDEX, () -> x.meet(wrong, 0));
            Checks.thrown("meet(0, " + wrong + ")", Checks.INDEX, () -> x.meet(0, wrong));
            Checks.thrown("meet(" + wrong + ", " + wrong + ")", Checks.INDEX, () -> x.meet(wrong, wrong));
        }
        Checks.thrown("meet(1, 1)", Checks.ARGUMENT, () -> x.meet(1, 1));
        Checks.due("nothing was an act", x.count(13), 0);
        Checks.due("nothing was a meeting", x.count(7), 0);
    }
}
