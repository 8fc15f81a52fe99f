/** Promises 35 and 36: whom colds come to, and who must wave so that one gets none. */
public final class ColdsTest {
    private static final String WAVES = "person 0 wave rank 0 bent 0";

    public static void main(String[] args) {
        colds();
        spared();
        wrong();
        Checks.finish();
    }

    private static CheekTown chain() {
        // 0 1 2 3 4 5, the latter ties first
        return Checks.townOf("land", WAVES + (";" + WAVES).repeat(5), "tie 4 5;tie 4 3;tie 3 2;tie 1 2;tie 0 1;cold 2");
    }

    private static void colds() {
        CheekTown x = chain();
        Checks.due("now", x.colds(0, 0), 4);
        // tie 4 3: none; 3 2: 3 has one; 1 2: 1 has one; 0 1: 0 has one
        Checks.due("a round, ties by numbers", x.colds(0, 1), 15);
        Checks.due("two rounds", x.colds(0, 2), 31);
        Checks.due("three rounds", x.colds(0, 3), 63);
        Checks.due("twenty", x.colds(0, 20), 63);
        Checks.due("1 waves", x.colds(2, 20), 60);
        Checks.due("3 waves", x.colds(8, 1), 7);
        Checks.due("2 waves, and keeps its own", x.colds(4, 20), 4);
        Checks.due("all wave", x.colds(-1, 20), 4);
        Checks.due("none that there is", x.colds(~63, 20), 63);
        Checks.due("nothing stays", x.count(11), 4);
        Checks.due("the law, OWN and waves count for nothing", Checks.law(x, "wave"), 1);
        Checks.due("a round", x.colds(0, 1), 15);
        x.cut(4);
        Checks.due("a tie that is cut passes none", x.colds(0, 20), 62);
        x.undo();
        x.cold(2, false);
        Checks.due("no cold", x.colds(0, 20), 0);
        x.cold(0, true);
        x.cold(5, true);
        Checks.due("two colds", x.colds(0, 1), 1 + 2 + 4 * 0 + 8 + 16 + 32 + 4);
    }

    private static void spared() {
        CheekTown x = chain();
        Checks.due("one has one", x.spared(2, 0), -2);
        Checks.due("one has one", x.spared(2, 20), -2);
        Checks.due("now", x.spared(5, 0), 0);
        Checks.due("too far", x.spared(5, 2), 0);
        Checks.due("4, 3 or 2: the least", x.spared(5, 3), 4);
        Checks.due("3 or 2", x.spared(4, 20), 4);
        Checks.due("2 alone", x.spared(3, 1), 4);
        Checks.due("1 or 2", x.spared(0, 1), 2);
        x.ties(0, 3);
        // to 0 lead 1 and 3, both from 2
        Checks.due("2 alone is fewest", x.spared(0, 5), 4);
        x.cold(4, true);
        Checks.due("by 2 and 4", x.spared(0, 5), 2 + 8);
        x.cold(1, true);
        x.cold(3, true);
        Checks.due("two must wave", x.spared(0, 1), 10);
        Checks.due("nothing stays", x.count(11), 2 + 4 + 8 + 16);
        Checks.due("tied to none but 4", x.spared(5, 20), 16);
        manyMustWave();
        CheekTown alone = Checks.townOf("land;" + WAVES);
        Checks.due("alone", alone.spared(0, 20), 0);
    }

    private static void manyMustWave() {
        CheekTown x = Checks.townOf("land", WAVES + (";" + WAVES).repeat(9));
        for (int p = 0; p < 9; p++) {
            x.ties(9, p);
            x.cold(p, true);
        }
        Checks.due("all others", x.spared(9, 1), 511);
        Checks.due("now", x.spared(9, 0), 0);
        x.cold(4, false);
        Checks.due("all others but one", x.spared(9, 20), 511 - 16);
    }

    private static void wrong() {
        CheekTown x = chain();
        for (int wrong : new int[] {-1, 21, Integer.MAX_VALUE, Integer.MIN_VALUE}) {
            Checks.thrown("colds(0, " + wrong + ")", Checks.ARGUMENT, () -> x.colds(0, wrong));
            Checks.thrown("spared(0, " + wrong + ")", Checks.ARGUMENT, () -> x.spared(0, wrong));
            Checks.thrown("spared of one who has one", Checks.ARGUMENT, () -> x.spared(2, wrong));
            Checks.thrown("spared(6, " + wrong + ")", Checks.INDEX, () -> x.spared(6, wrong));
        }
        Checks.thrown("spared(-1, 0)", Checks.INDEX, () -> x.spared(-1, 0));
        Checks.thrown("spared(6, 0)", Checks.INDEX, () -> x.spared(6, 0));
    }
}
