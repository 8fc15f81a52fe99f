/** Promises 20 to 25: what is expected, best and safest, odds, where one is from, and what it is worth to know. */
public final class LandsTest {
    private static final String LANDS = "land;land;land;habit 0 kiss 2 right weight 3;habit 0 hand weight 1;habit 1 wave weight 2;"
        + "habit 1 hand weight 2;habit 0 hand weight 2";

    public static void main(String[] args) {
        expected();
        best();
        safest();
        odds();
        from();
        fromFour();
        worth();
        Checks.finish();
    }

    private static void expected() {
        CheekTown x = Checks.townOf(LANDS);
        Checks.due("a hand", x.expected(0, 8), 30);
        Checks.due("a kiss 2 right", x.expected(0, 19), 30);
        Checks.due("a kiss 4 left", x.expected(0, 22), 3 * 9 + 30);
        Checks.due("a wave", x.expected(0, 0), 60);
        Checks.due("any wave", x.expected(0, 5), 60);
        Checks.due("a wave in 1", x.expected(1, 0), 20);
        Checks.due("without habits", x.expected(2, 31), 0);
        Checks.town(x, "stomach 4");
        Checks.due("at another price", x.expected(0, 0), 24);
        wrongLand("expected", land -> x.expected(land, 0));
        Checks.thrown("no greeting", Checks.INDEX, () -> x.expected(0, 32));
        Checks.thrown("no greeting", Checks.INDEX, () -> x.expected(0, -1));
    }

    private interface OfLand {
        int of(int land);
    }

    private static void wrongLand(String call, OfLand asked) {
        for (int wrong : new int[] {-1, 3, 6, Integer.MAX_VALUE, Integer.MIN_VALUE}) {
            Checks.thrown(call + "(" + wrong + ")", Checks.INDEX, () -> asked.of(wrong));
        }
    }

    private static void best() {
        CheekTown x = Checks.townOf(LANDS);
        Checks.due("hand and kiss cost alike: the least CODE", x.best(0), 8);
        Checks.due("wave and hand cost alike", x.best(1), 0);
        Checks.due("without habits", x.best(2), 0);
        Checks.town(x, "habit 0 kiss 4 left weight 1;habit 2 embrace weight 1");
        // hand 40; kiss 2 right 3 * 10 + 9 = 39; kiss 3 right 6 + 30 + 7 = 43
        Checks.due("the least", x.best(0), 19);
        Checks.due("an embrace", x.best(2), 24);
        wrongLand("best", x::best);
        Checks.town(x, "air 0;noses 0");
        Checks.due("of kisses that cost nothing the least CODE", x.best(0), 16);
    }

    private static void safest() {
        CheekTown x = new CheekTown();
        Checks.due("without habits", x.safest(false), 0);
        Checks.due("without habits", x.safest(true), 0);
        Checks.town(x, "land;land;habit 0 kiss 1 left weight 9;habit 1 kiss 4 left weight 1");
        // 2 left: 2 and 4; 3 left: 4 and 2; with a right one 5 more
        Checks.due("in the midst", x.safest(false), 18);
        Checks.due("its greatest COST", x.safest(true), 4);
        Checks.town(x, "habit 1 kiss 4 right weight 1");
        // 1 left: 11; 2 left: 9; 3 left: 7; 4 left: 6
        Checks.due("the greatest with any of any land", x.safest(false), 20 + 2);
        Checks.due("its greatest COST", x.safest(true), 6);
        Checks.town(x, "habit 0 hand weight 1");
        Checks.due("STOMACH for each but 6 for none", x.safest(false), 0);
        Checks.due("its greatest COST", x.safest(true), 10);
        Checks.town(x, "stomach 5");
        Checks.due("now all kinds cost 5 at most", x.safest(true), 5);
    }

    private static void odds() {
        CheekTown x = Checks.townOf(LANDS);
        Checks.due("3 of 6", x.odds(0, 19), 5000);
        Checks.due("of all habits that tell it", x.odds(0, 8), 5000);
        Checks.due("none", x.odds(0, 0), 0);
        Checks.due("without habits", x.odds(2, 0), 0);
        Checks.town(x, "habit 1 embrace weight 2");
        Checks.due("2 of 6, rounded down", x.odds(1, 0), 3333);
        Checks.town(x, "habit 2 wave weight 1");
        Checks.due("1 of 1", x.odds(2, 0), 10000);
        Checks.due("0 of 1", x.odds(2, 8), 0);
        wrongLand("odds", land -> x.odds(land, 0));
        Checks.thrown("no greeting", Checks.INDEX, () -> x.odds(0, 32));
        Checks.thrown("no greeting", Checks.INDEX, () -> x.odds(0, -1));
    }

    private static void from() {
        CheekTown x = Checks.townOf(LANDS);
        Checks.due("a hand", Checks.from(x, false, 8), 3);
        Checks.due("a hand: 3 of 6 and 2 of 4", Checks.from(x, true, 8), 0);
        Checks.due("a hand and a wave", Checks.from(x, false, 8, 0), 2);
        Checks.due("a hand and a wave", Checks.from(x, true, 8, 0), 1);
        Checks.due("a wave and a kiss", Checks.from(x, false, 0, 19), 0);
        Checks.due("a wave and a kiss", Checks.from(x, true, 0, 19), -1);
        Checks.due("none told: all lands that have habits", Checks.from(x, false), 3);
        Checks.due("none told: the least", Checks.from(x, true), 0);
        Checks.due("31", Checks.from(x, false, 31), 0);
        Checks.thrown("32", Checks.ARGUMENT, () -> Checks.from(x, false, 32));
        Checks.thrown("255", Checks.ARGUMENT, () -> Checks.from(x, true, 8, 255));
        Checks.thrown("128", Checks.ARGUMENT, () -> Checks.from(x, true, 8, 8, 8, 128));
        Checks.due("four", Checks.from(x, false, 8, 8, 8, 8), 3);
        Checks.thrown("five", Checks.ARGUMENT, () -> Checks.from(x, false, 8, 8, 8, 8, 8));
        x.feed(0x08080808, 0xFF000000, 0, 0, 0);
        x.end(4);
        Checks.due("a byte behind the tape's end is none", x.from(false), 3);
        Checks.due("from reads no text", x.fault(), -1);
        Checks.wrongTown(x, "hug", 0);
        Checks.from(x, false, 8);
        Checks.due("from reads no text", x.fault(), 0);
        Checks.town(x, "habit 1 hand weight 1");
        Checks.due("3 of 5 is more than 3 of 6", Checks.from(x, true, 8), 1);
        Checks.town(x, "habit 2 hand weight 1");
        Checks.due("1 of 1", Checks.from(x, false, 8), 7);
        Checks.due("1 of 1 is more than 3 of 5", Checks.from(x, true, 8), 2);
    }

    private static void fromFour() {
        // land 0 waves in 215 of 216, as far as 24 habits go; land 1 has none of them
        CheekTown x = Checks.townOf("land;land");
        String twelve = "habit 0 wave weight 9" + ";habit 0 wave weight 9".repeat(11);
        Checks.town(x, twelve);
        Checks.town(x, twelve);
        Checks.due("all weight", x.habit(0, 0), 216);
        Checks.due("four waves", Checks.from(x, true, 0, 0, 0, 0), 0);
        Checks.due("four waves", Checks.from(x, false, 0, 0, 0, 0), 1);
        // products too great for an int: 99 of 100 and 98 of 99, to the fourth
        CheekTown y = Checks.townOf("land;land");
        Checks.town(y, "habit 0 hand weight 9" + ";habit 0 hand weight 9".repeat(10));
        Checks.town(y, "habit 0 wave weight 1;habit 1 wave weight 1" + ";habit 1 hand weight 9".repeat(10));
        Checks.town(y, "habit 1 hand weight 8");
        Checks.due("99 of 100 is more than 98 of 99", Checks.from(y, true, 8, 8, 8, 8), 0);
        Checks.due("both may be", Checks.from(y, false, 8, 8, 8, 8), 3);
        Checks.due("1 of 100 is less than 1 of 99", Checks.from(y, true, 0, 0, 0, 0), 1);
    }

    private static void worth() {
        CheekTown x = new CheekTown();
        Checks.due("nobody", x.worth(), 0);
        Checks.town(x, "land;land;habit 0 wave weight 3;habit 1 hand weight 2");
        Checks.due("habits alone", x.worth(), 0);
        Checks.town(x, "person 0 kiss 1 left rank 0 bent 0");
        Checks.due("one land", x.worth(), 0);
        Checks.town(x, "person 1 kiss 1 left rank 0 bent 0");
        Checks.due("20 for a wave, 30 for a hand", x.worth(), 20);
        Checks.town(x, "person 1 kiss 1 left rank 0 bent 0");
        Checks.due("40 for a wave, 30 for a hand", x.worth(), 30);
        Checks.town(x, "habit 1 wave weight 1");
        // a wave 2 * 20, a hand 30 + 2 * 10; the best ones 0 and 2 * 10
        Checks.due("less what the best ones cost", x.worth(), 20);
        Checks.town(x, "habit 0 hand weight 2");
        // a wave 20 + 2 * 20, a hand 30 + 2 * 10; the best ones 20 and 2 * 10
        Checks.due("the best one of the first one's land costs too", x.worth(), 10);
        Checks.town(x, "stomach 0");
        Checks.due("at no cost", x.worth(), 0);
    }
}
