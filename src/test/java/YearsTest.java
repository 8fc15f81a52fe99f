/** Promises 31 to 34: which custom is in how many years, when it rests, and who must be told so that one wins. */
public final class YearsTest {
    /** A chain 0 1 2 3 4; OWN wave, hand, hand, hand, wave. */
    private static final String CHAIN = "land;person 0 wave rank 0 bent 0;person 0 hand rank 0 bent 0;person 0 hand rank 0 bent 0;"
        + "person 0 hand rank 0 bent 0;person 0 wave rank 0 bent 0;tie 0 1;tie 1 2;tie 2 3;tie 3 4";
    /** A ring 0 1 2 3 in which neighbours differ: all change, year for year. */
    private static final String RING = "land;person 0 wave rank 0 bent 0;person 0 hand rank 0 bent 0;person 0 wave rank 0 bent 0;"
        + "person 0 hand rank 0 bent 0;tie 0 1;tie 1 2;tie 2 3;tie 3 0";

    public static void main(String[] args) {
        after();
        most();
        custom();
        ring();
        strip();
        told();
        wrong();
        Checks.finish();
    }

    private static void after() {
        CheekTown x = new CheekTown();
        Checks.due("nobody: greetings", x.after(60, 0), 0);
        Checks.due("nobody: that of most", x.after(60, 1), -1);
        Checks.due("nobody: how many", x.after(60, 2), 0);
        Checks.due("nobody: still", x.still(), 0);
        Checks.due("nobody: told", x.told(3, 60), 0);
        Checks.town(x, CHAIN);
        // 0 and 4 have a wave and a hand about: a tie, they keep theirs
        Checks.due("greetings", x.after(60, 0), 2);
        Checks.due("that of most", x.after(60, 1), 8);
        Checks.due("how many", x.after(60, 2), 3);
        Checks.due("still", x.still(), 0);
        x.own(1, 24);
        // 1: wave, embrace, hand: keeps. all keep
        Checks.due("still", x.still(), 0);
        Checks.due("greetings", x.after(0, 0), 3);
        Checks.due("two of each of two kinds: the least CODE", x.after(0, 1), 0);
        Checks.due("two", x.after(0, 2), 2);
        Checks.due("nothing was an act but own", x.count(13), 1);
    }

    private static void most() {
        // 0 is tied to all others
        CheekTown x = Checks.townOf("land;person 0 kiss 1 left rank 0 bent 0;person 0 hand rank 0 bent 0;person 0 hand rank 0 bent 0;"
            + "person 0 embrace rank 0 bent 0;person 0 embrace rank 0 bent 0;tie 0 1;tie 2 0;tie 0 3;tie 4 0");
        Checks.due("two hands, two embraces, own one: the least CODE", x.custom(0, 1), 8);
        Checks.due("1 keeps its own", x.custom(1, 1), 8);
        x.own(0, 24);
        Checks.due("own is one of the most", x.custom(0, 1), 24);
        Checks.due("3: own and 0's", x.custom(3, 1), 24);
        Checks.due("1: a tie, keeps its own", x.custom(1, 1), 8);
        x.own(1, 24);
        x.own(2, 24);
        x.own(0, 0);
        Checks.due("four embraces", x.custom(0, 1), 24);
        Checks.due("in two years", x.custom(0, 2), 24);
        Checks.due("still in one", x.still(), 1);
    }

    private static void custom() {
        CheekTown x = Checks.townOf(CHAIN);
        x.ties(0, 2);
        x.ties(4, 2);
        // 0: wave, hand, hand; 4 likewise
        int[] now = {0, 8, 8, 8, 0};
        for (int p = 0; p < 5; p++) {
            Checks.due("custom(" + p + ", 0)", x.custom(p, 0), now[p]);
            Checks.due("custom(" + p + ", 1)", x.custom(p, 1), 8);
            Checks.due("custom(" + p + ", 60)", x.custom(p, 60), 8);
        }
        Checks.due("still", x.still(), 1);
        Checks.due("one greeting", x.after(1, 0), 1);
        Checks.due("OWN is as it was", x.person(0, 1), 0);
        Checks.law(x, "embrace");
        Checks.due("OWN counts, not the law", x.custom(0, 1), 8);
    }

    private static void ring() {
        CheekTown x = Checks.townOf(RING);
        for (int n = 0; n <= 60; n++) {
            Checks.due("custom(0, " + n + ")", x.custom(0, n), n % 2 == 0 ? 0 : 8);
            Checks.due("custom(3, " + n + ")", x.custom(3, n), n % 2 == 0 ? 8 : 0);
        }
        Checks.due("never still", x.still(), -1);
        Checks.due("greetings", x.after(59, 0), 2);
        // 0 told a hand, 2 alone waves, between two hands
        Checks.due("told a hand, in a year", x.told(8, 1), 1);
        Checks.due("told a hand, now", x.told(8, 0), 5);
        Checks.due("told a wave, in 60 years", x.told(0, 60), 2);
        Checks.due("three of one kind", x.feast(1, 8), 1);
        // 0 1 3 give a hand, 2 waves: 1 and 3 see hand, hand, wave
        Checks.due("still in a year", x.still(), 1);
        Checks.due("none must be told", x.told(8, 1), 0);
        Checks.due("one must be told now", x.told(8, 0), 4);
        // 1 and 3 keep an embrace between a hand and a wave, and win these; two neighbours, or 0 and 2, don't win
        Checks.due("an embrace", x.told(24, 5), 10);
    }

    /** Each is tied to the two ahead; 0 and 1 wave, all others do what nobody else does: a wave wins one a year. */
    private static void strip() {
        CheekTown x = Checks.townOf("land", "person 0 wave rank 0 bent 0" + ";person 0 wave rank 0 bent 0".repeat(9));
        x.ties(1, 0);
        for (int p = 2; p < 10; p++) {
            x.own(p, 31 - p);
            x.ties(p, p - 1);
            x.ties(p - 2, p);
        }
        for (int n = 0; n <= 8; n++) {
            Checks.due("who waves after " + n, x.after(n, 2), n + 2);
            Checks.due("greetings after " + n, x.after(n, 0), 9 - n);
            for (int p = 2; p < 10; p++) {
                Checks.due("custom(" + p + ", " + n + ")", x.custom(p, n), p - 1 <= n ? 0 : 31 - p);
            }
        }
        Checks.due("still", x.still(), 8);
        Checks.due("none must be told", x.told(0, 8), 0);
        Checks.due("one more must be told", x.told(0, 7), 4);
        x.own(0, 31);
        Checks.due("0 or any other", x.told(0, 60), 1);
    }

    private static void told() {
        CheekTown x = Checks.townOf(CHAIN);
        Checks.due("all have it now, but two", x.told(8, 0), 17);
        Checks.due("ends of a chain keep theirs", x.told(8, 60), 17);
        Checks.due("a wave", x.told(0, 0), 14);
        // with 1 and 2 told, 3 is between two waves; with 2 told alone, 1 and 3 are, while 2 goes back to a hand for a year
        Checks.due("a wave in a year", x.told(0, 1), 6);
        Checks.due("a wave in two years", x.told(0, 2), 4);
        Checks.due("all but one", x.told(31, 0), 31);
        Checks.due("nothing stays", x.person(2, 1), 8);
        x.feast(31, 31);
        Checks.due("none must be told", x.told(31, 60), 0);
        Checks.due("none must be told", x.told(31, 0), 0);
    }

    private static void wrong() {
        CheekTown x = Checks.townOf(RING);
        for (int wrong : new int[] {-1, 61, Integer.MAX_VALUE, Integer.MIN_VALUE}) {
            Checks.thrown("after(" + wrong + ", 0)", Checks.ARGUMENT, () -> x.after(wrong, 0));
            Checks.thrown("after(" + wrong + ", 3)", Checks.ARGUMENT, () -> x.after(wrong, 3));
            Checks.thrown("custom(0, " + wrong + ")", Checks.ARGUMENT, () -> x.custom(0, wrong));
            Checks.thrown("custom(4, " + wrong + ")", Checks.INDEX, () -> x.custom(4, wrong));
            Checks.thrown("told(0, " + wrong + ")", Checks.ARGUMENT, () -> x.told(0, wrong));
            Checks.thrown("told(32, " + wrong + ")", Checks.INDEX, () -> x.told(32, wrong));
        }
        Checks.thrown("after(0, 3)", Checks.NO_SUCH, () -> x.after(0, 3));
        Checks.thrown("after(0, -1)", Checks.NO_SUCH, () -> x.after(0, -1));
        Checks.thrown("custom(4, 0)", Checks.INDEX, () -> x.custom(4, 0));
        Checks.thrown("custom(-1, 0)", Checks.INDEX, () -> x.custom(-1, 0));
        Checks.thrown("told(-1, 0)", Checks.INDEX, () -> x.told(-1, 0));
    }
}
