/** Promises 7 to 11 and 45: how all is. */
public final class StateTest {
    private static final String TOWN = "land;land;habit 0 kiss 2 right weight 3;habit 0 hand weight 1;habit 0 kiss 2 right weight 4;"
        + "person 0 kiss 2 right rank 5 bent 40;person 1 wave rank 3 bent 100;person 0 kiss 3 left rank 0 bent 0;tie 2 1;tie 0 1;cold 2";

    public static void main(String[] args) {
        cost();
        habit();
        person();
        saw();
        tie();
        count();
        Checks.finish();
    }

    private static void cost() {
        for (int g = 0; g < 32; g++) {
            CheekTown x = Checks.townOf("stomach 90;air 7;noses 31");
            for (int h = 0; h < 32; h++) {
                int kisses = 7 * Math.abs(g / 2 % 4 - h / 2 % 4) + (g % 2 != h % 2 ? 31 : 0);
                Checks.due("cost(" + g + ", " + h + ")", x.cost(g, h), g / 8 != h / 8 ? 90 : g / 8 == 2 ? kisses : 0);
            }
        }
        CheekTown x = new CheekTown();
        for (int wrong : new int[] {-1, 32, Integer.MIN_VALUE, Integer.MAX_VALUE}) {
            Checks.thrown("cost(" + wrong + ", 0)", Checks.INDEX, () -> x.cost(wrong, 0));
            Checks.thrown("cost(0, " + wrong + ")", Checks.INDEX, () -> x.cost(0, wrong));
        }
    }

    private static void habit() {
        CheekTown x = Checks.townOf(TOWN);
        Checks.due("of all habits that tell it", x.habit(0, 19), 7);
        Checks.due("of one", x.habit(0, 8), 1);
        Checks.due("of none", x.habit(0, 0), 0);
        Checks.due("in another land", x.habit(1, 19), 0);
        for (int wrong : new int[] {-1, 2, Integer.MAX_VALUE, Integer.MIN_VALUE}) {
            Checks.thrown("habit of a land that is none", Checks.INDEX, () -> x.habit(wrong, 0));
        }
        Checks.thrown("habit of no greeting", Checks.INDEX, () -> x.habit(0, 32));
        Checks.thrown("habit of no greeting", Checks.INDEX, () -> x.habit(0, -1));
    }

    private static void person() {
        CheekTown x = Checks.townOf(TOWN);
        int[][] due = {{0, 19, 5, 40, 0, 2, 0}, {1, 0, 3, 100, 0, 5, 0}, {0, 20, 0, 0, 1, 2, 0}};
        for (int p = 0; p < 3; p++) {
            for (int what = 0; what < 7; what++) {
                Checks.due("person(" + p + ", " + what + ")", x.person(p, what), due[p][what]);
            }
        }
        x.meet(0, 1);
        x.meet(1, 2);
        x.meet(1, 0);
        Checks.due("meetings of 0", x.person(0, 6), 2);
        Checks.due("meetings of 1", x.person(1, 6), 3);
        Checks.due("meetings of 2", x.person(2, 6), 1);
        x.cut(0);
        Checks.due("tied no more", x.person(1, 5), 1);
        Checks.due("tied no more", x.person(2, 5), 0);
        for (int wrong : new int[] {-1, 3, Integer.MIN_VALUE, Integer.MAX_VALUE}) {
            Checks.thrown("nobody's land", Checks.INDEX, () -> x.person(wrong, 0));
        }
        Checks.thrown("nobody's what that is none", Checks.INDEX, () -> x.person(3, 7));
        Checks.thrown("what 7", Checks.NO_SUCH, () -> x.person(0, 7));
        Checks.thrown("what -1", Checks.NO_SUCH, () -> x.person(0, -1));
    }

    private static void saw() {
        CheekTown x = Checks.townOf(TOWN);
        Checks.due("not met", x.saw(0, 1, false), -1);
        Checks.due("not met", x.saw(0, 1, true), 0);
        // 1 (wave) has the lesser RANK and is bent, so that it does what 0 does
        x.meet(0, 1);
        Checks.due("0 saw of 1", x.saw(0, 1, false), 19);
        Checks.due("1 saw of 0", x.saw(1, 0, false), 19);
        Checks.due("0 met 1", x.saw(0, 1, true), 1);
        Checks.due("1 met 0", x.saw(1, 0, true), 1);
        Checks.due("2 saw nothing of 0", x.saw(2, 0, false), -1);
        Checks.due("2 met nobody", x.saw(2, 0, true), 0);
        Checks.thrown("saw of oneself", Checks.ARGUMENT, () -> x.saw(2, 2, true));
        Checks.thrown("saw of nobody", Checks.INDEX, () -> x.saw(0, 3, true));
        Checks.thrown("nobody saw", Checks.INDEX, () -> x.saw(-1, 0, false));
        Checks.thrown("nobody saw of nobody", Checks.INDEX, () -> x.saw(3, 3, false));
    }

    private static void tie() {
        CheekTown x = Checks.townOf(TOWN);
        int[][] due = {{2, 1}, {0, 1}};
        for (int t = 0; t < 2; t++) {
            Checks.due("tie(" + t + ", false)", x.tie(t, false), due[t][0]);
            Checks.due("tie(" + t + ", true)", x.tie(t, true), due[t][1]);
        }
        Checks.thrown("tie(2)", Checks.INDEX, () -> x.tie(2, false));
        Checks.thrown("tie(-1)", Checks.INDEX, () -> x.tie(-1, true));
    }

    private static void count() {
        CheekTown x = Checks.townOf(TOWN, "stomach 11;air 12;noses 13");
        Checks.law(x, "wave if round > 90;hand if round > 90;wave if round > 90");
        x.rounds(2);
        x.meet(0, 2);
        // ROUND 0: 2 kisses, 1 waves; 2 is asked first, not bent; 1 yields: 5. 0 kisses, 1 waves and yields: 5.
        // ROUND 1: each begins as it saw: 0. At last 2 kisses 3 left and 0 kisses 2 right: 25; 2 is asked first, not bent,
        // then 0, bent 40: the fifth DRAW is 31051, and 51 is too much.
        int[] counts = {2, 3, 3, 2, 2, 3, 2, 5};
        for (int what = 0; what < counts.length; what++) {
            Checks.due("count(" + what + ")", x.count(what), counts[what]);
        }
        Checks.due("COST of all", x.count(8), 35);
        Checks.due("how many yielded", x.count(9), 2);
        Checks.due("minutes", x.count(10), 3 + 2 + 3 + 2 + 3);
        Checks.due("colds go by cheeks", x.count(11), 7);
        Checks.due("rows", x.count(12), 5);
        Checks.due("acts", x.count(13), 2);
        Checks.due("stomach", x.count(14), 11);
        Checks.due("air", x.count(15), 12);
        Checks.due("noses", x.count(16), 13);
        for (int wrong : new int[] {-1, 17, 100, Integer.MIN_VALUE, Integer.MAX_VALUE}) {
            Checks.due("count(" + wrong + ")", x.count(wrong), -1);
        }
    }
}
