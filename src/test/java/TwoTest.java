/** Promises 26 and 27: where two rest, and how they come to meet each other's count. */
public final class TwoTest {
    private static final String TWO = "land;person 0 kiss 1 left rank 0 bent 0;person 0 kiss 4 right rank 9 bent 100;person 0 hand rank 0 bent 0";

    public static void main(String[] args) {
        rests();
        sake();
        Checks.finish();
    }

    private static void rests() {
        CheekTown x = Checks.townOf(TWO);
        Checks.due("far apart: one of both yields", x.rests(0, 1), 6);
        Checks.due("the other way", x.rests(1, 0), 6);
        Checks.due("kiss and hand", x.rests(0, 2), 6);
        x.own(1, 16);
        Checks.due("alike: both do their own", x.rests(0, 1), 1);
        x.own(1, 22);
        Checks.town(x, "air 0");
        Checks.due("unlike at no cost: both do their own", x.rests(0, 1), 1);
        Checks.town(x, "air 1");
        x.own(1, 18);
        // both apart cost 1, and to take the other's costs 1: neither does better
        Checks.due("at a COST of 1", x.rests(0, 1), 7);
        x.own(1, 20);
        Checks.due("at a COST of 2", x.rests(0, 1), 6);
        Checks.law(x, "embrace");
        Checks.due("OWN counts, not what one will do", x.rests(0, 1), 6);
        Checks.thrown("both are one", Checks.ARGUMENT, () -> x.rests(1, 1));
        Checks.thrown("nobody", Checks.INDEX, () -> x.rests(3, 3));
        Checks.thrown("nobody", Checks.INDEX, () -> x.rests(0, 3));
        Checks.thrown("nobody", Checks.INDEX, () -> x.rests(-1, 0));
    }

    private static void sake() {
        CheekTown x = Checks.townOf(TWO);
        int[][] due = {{0, -1, 1, -1}, {-1, 0, -1, 1}, {1, -1, 0, -1}, {-1, 1, -1, 0}};
        for (int a = 0; a < 4; a++) {
            for (int b = 0; b < 4; b++) {
                x.own(0, 16 + 2 * a);
                x.own(1, 16 + 2 * b + 1);
                Checks.due("sake of " + a + " and " + b, x.sake(0, 1, false), due[a][b]);
                Checks.due("led, of " + a + " and " + b, x.sake(0, 1, true), Math.abs(a - b));
            }
        }
        Checks.due("one's OWN is no kiss", x.sake(0, 2, false), -1);
        Checks.due("one's OWN is no kiss", x.sake(2, 0, true), -1);
        x.own(1, 8);
        Checks.due("neither's OWN is a kiss, though they are alike", x.sake(1, 2, false), -1);
        Checks.due("neither's OWN is a kiss, though they are alike", x.sake(1, 2, true), -1);
        Checks.thrown("both are one", Checks.ARGUMENT, () -> x.sake(0, 0, true));
        Checks.thrown("nobody", Checks.INDEX, () -> x.sake(0, 3, true));
        Checks.thrown("nobody", Checks.INDEX, () -> x.sake(-1, 3, false));
        Checks.thrown("nobody", Checks.INDEX, () -> x.sake(3, 3, false));
    }
}
