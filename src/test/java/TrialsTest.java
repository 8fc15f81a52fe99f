import java.util.Arrays;

/** Promises 37 to 39: who changed by the log, trials and spans. From SEED 1 the draws modulo 100 are 38, 58, 13, 15, 51, 27. */
public final class TrialsTest {
    private static final String THREE = "land;person 0 wave rank 0 bent 40;person 0 hand rank 1 bent 0;person 0 embrace rank 2 bent 0";

    public static void main(String[] args) {
        changed();
        changedByLog();
        trial();
        span();
        spans();
        wrong();
        Checks.finish();
    }

    private static void changed() {
        CheekTown x = Checks.townOf(THREE);
        Checks.due("nobody", x.changed(false), 0);
        Checks.due("never", x.changed(true), 0);
        x.meet(0, 1);
        Checks.due("one time alone", x.changed(true), 0);
        x.own(0, 8);
        x.meet(0, 2);
        Checks.due("with another one is no next time", x.changed(false), 0);
        // 0 yielded (38 is below 40): both DID a hand; 0 begins with that
        x.meet(1, 0);
        Checks.due("0 began with a wave, then with a hand", x.changed(false), 1);
        Checks.due("once", x.changed(true), 1);
        Checks.law(x, "kiss 1 left if who > 0;hand");
        x.meet(0, 1);
        Checks.due("1 began with a hand, then with a kiss", x.changed(false), 3);
        Checks.due("twice", x.changed(true), 2);
        x.meet(2, 1);
        Checks.due("a first time", x.changed(true), 2);
        Checks.law(x, "kiss 2 left if who > 0;hand");
        x.meet(2, 1);
        Checks.due("both of two", x.changed(false), 7);
        Checks.due("both of two", x.changed(true), 4);
        x.meet(2, 1);
        Checks.due("the same again", x.changed(true), 4);
    }

    private static void changedByLog() {
        CheekTown x = Checks.townOf(THREE);
        Checks.law(x, "embrace if met < 1 and who < 1;wave if round < 1;hand");
        x.meet(0, 1);
        x.meet(0, 1);
        Checks.due("0 changed", x.changed(true), 1);
        for (int i = 0; i < 58; i++) {
            x.meet(1, 2);
        }
        Checks.due("60 rows", x.changed(true), 1);
        x.meet(1, 2);
        Checks.due("the first of both times is out of the log", x.changed(true), 0);
        Checks.due("nobody", x.changed(false), 0);
        x.rounds(1);
        x.meet(0, 1);
        Checks.due("now the other time is out too", x.changed(true), 0);
        Checks.law(x, "kiss 1 left");
        x.meet(0, 1);
        Checks.due("0 and 1 changed from a hand to a kiss", x.changed(false), 3);
        Checks.due("twice", x.changed(true), 2);
    }

    private static void trial() {
        CheekTown x = Checks.townOf(THREE, "tie 0 1;tie 1 2;cold 2");
        Checks.due("no rounds: COST", x.trial(0, 0), 0);
        Checks.due("no rounds: YIELDED", x.trial(0, 1), 0);
        Checks.due("no rounds: greetings", x.trial(0, 2), 3);
        Checks.due("no rounds: colds", x.trial(0, 3), 4);
        // 0 and 1: 38 is below 40: 0 yields, 5. 1 and 2: 58 and 13 aren't below 0: 10; 2 gives its cold to 1
        Checks.due("a round: COST", x.trial(1, 0), 15);
        Checks.due("a round: YIELDED", x.trial(1, 1), 1);
        Checks.due("a round: colds", x.trial(1, 3), 6);
        // 0 and 1 give a hand from then on, 1 embraces 2 and 2 gives a hand: 10 each time
        Checks.due("two rounds: COST", x.trial(2, 0), 25);
        Checks.due("two rounds: colds", x.trial(2, 3), 7);
        // 0 saw hands alone, behind three it changes; 2 saw hand, embrace, hand; 1 hand, embrace, hand, hand, hand, embrace
        Checks.due("two rounds: greetings", x.trial(2, 2), 3);
        Checks.due("three rounds: greetings", x.trial(3, 2), 2);
        Checks.due("nothing stays", x.count(7) + x.count(6) + x.count(8) + x.count(9) + x.count(10) + x.count(12) + x.count(13), 0);
        Checks.due("nor a cold", x.count(11), 4);
        Checks.due("nor the SEED", x.seed(1), 1);
        x.rounds(1);
        Checks.due("from now on", x.trial(1, 0), 10);
        Checks.due("YIELDED in these alone", x.trial(1, 1), 0);
        Checks.due("twenty", x.trial(20, 0), 200);
        Checks.due("as the rounds then go", x.rounds(20), 200);
    }

    private static void span() {
        // one tie, COST 10; draws of the first one asked from SEED 1 to 6: 38, then as the numbers are
        CheekTown x = Checks.townOf(THREE, "tie 0 1");
        int fewest = 10;
        int most = 5;
        for (int seed = 1; seed <= 6; seed++) {
            int draw = (1103515245 * seed + 12345 >> 16 & 32767) % 100;
            int cost = draw < 40 ? 5 : 10;
            x.seed(seed);
            Checks.due("trial from SEED " + seed, x.trial(1, 0), cost);
            fewest = Math.min(fewest, cost);
            most = Math.max(most, cost);
        }
        x.seed(99);
        Checks.due("the fewest", x.span(1, false), fewest);
        Checks.due("the most", x.span(1, true), most);
        Checks.due("fewest and most are unlike here", fewest < most, true);
        Checks.due("no rounds", x.span(0, false), 0);
        Checks.due("no rounds", x.span(0, true), 0);
        Checks.due("the SEED stays", x.seed(99), 99);
        Checks.due("nothing stays", x.count(7), 0);
        CheekTown none = new CheekTown();
        Checks.due("nobody", none.span(20, false), 0);
        Checks.due("nobody", none.span(20, true), 0);
    }

    /** Each of the six seeds is somewhere the only one with the fewest, or with the most. */
    private static void spans() {
        int alone = 0;
        for (int bent = 2; bent < 100; bent += 3) {
            CheekTown x = Checks.townOf("land;person 0 wave rank 0 bent " + bent + ";person 0 hand rank 1 bent " + bent / 2
                + ";person 0 embrace rank 2 bent 9;tie 0 1;tie 1 2;tie 0 2");
            for (int n = 1; n <= 5; n++) {
                int[] costs = new int[6];
                for (int seed = 1; seed <= 6; seed++) {
                    x.seed(seed);
                    costs[seed - 1] = x.trial(n, 0);
                }
                int[] sorted = costs.clone();
                Arrays.sort(sorted);
                Checks.due("span(" + n + ", false)", x.span(n, false), sorted[0]);
                Checks.due("span(" + n + ", true)", x.span(n, true), sorted[5]);
                for (int i = 0; i < 6; i++) {
                    boolean fewest = costs[i] == sorted[0] && sorted[0] < sorted[1];
                    boolean most = costs[i] == sorted[5] && sorted[5] > sorted[4];
                    alone |= fewest || most ? 1 << i : 0;
                }
            }
        }
        Checks.due("seeds that were alone", alone, 63);
    }

    private static void wrong() {
        CheekTown x = Checks.townOf(THREE);
        for (int wrong : new int[] {-1, 21, Integer.MAX_VALUE, Integer.MIN_VALUE}) {
            Checks.thrown("trial(" + wrong + ", 0)", Checks.ARGUMENT, () -> x.trial(wrong, 0));
            Checks.thrown("trial(" + wrong + ", 4)", Checks.ARGUMENT, () -> x.trial(wrong, 4));
            Checks.thrown("span(" + wrong + ", true)", Checks.ARGUMENT, () -> x.span(wrong, true));
            Checks.thrown("span(" + wrong + ", false)", Checks.ARGUMENT, () -> x.span(wrong, false));
        }
        Checks.thrown("trial(0, 4)", Checks.NO_SUCH, () -> x.trial(0, 4));
        Checks.thrown("trial(0, -1)", Checks.NO_SUCH, () -> x.trial(0, -1));
    }
}
