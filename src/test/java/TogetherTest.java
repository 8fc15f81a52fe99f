/** Promises 28 to 30: seats at a table, pairs at once, who begins by which rule. */
public final class TogetherTest {
    private static final String WAVES = "person 0 wave rank 0 bent 0";

    public static void main(String[] args) {
        table();
        manyAtTable();
        pairs();
        manyPairs();
        begins();
        Checks.finish();
    }

    private static void seats(CheekTown x, int set, int cost, int... due) {
        Checks.due("table(" + set + ", NONE)", x.table(set, -1), cost);
        for (int k = 0; k < due.length; k++) {
            Checks.due("table(" + set + ", " + k + ")", x.table(set, k), due[k]);
        }
        for (int k : new int[] {due.length, due.length + 1, 8, 9, -2, Integer.MAX_VALUE, Integer.MIN_VALUE}) {
            Checks.due("table(" + set + ", " + k + ")", x.table(set, k), -1);
        }
    }

    private static void table() {
        CheekTown x = new CheekTown();
        seats(x, 0, 0);
        seats(x, -1, 0);
        Checks.town(x, "land;person 0 kiss 1 left rank 0 bent 0;person 0 wave rank 0 bent 0;person 0 kiss 4 left rank 0 bent 0;"
            + "person 0 wave rank 0 bent 0;person 0 kiss 2 left rank 0 bent 0");
        seats(x, 0, 0);
        seats(x, 8, 0, 3);
        seats(x, 3, 10, 0, 1);
        seats(x, 20, 4, 2, 4);
        seats(x, 20 + 512 + 1024, 4, 2, 4);
        // three are all neighbours, in whatever order
        seats(x, 7, 26, 0, 1, 2);
        seats(x, 21, 12, 0, 2, 4);
        // waves beside one another: 10 twice, 0, and 6
        seats(x, 15, 26, 0, 1, 3, 2);
        // 0 1 3 2 4: 10, 0, 10, 4, 2
        seats(x, 31, 26, 0, 1, 3, 2, 4);
        seats(x, -1, 26, 0, 1, 3, 2, 4);
        seats(x, 32, 0);
        Checks.law(x, "embrace");
        seats(x, 31, 26, 0, 1, 3, 2, 4);
        Checks.town(x, "stomach 0");
        // two of the kisses at most are apart by a wave each: 0 and 2, 2 and 4
        seats(x, 31, 2, 0, 1, 2, 3, 4);
    }

    private static void manyAtTable() {
        CheekTown x = Checks.townOf("land", WAVES + (";" + WAVES).repeat(9));
        Checks.due("eight", x.table(255, -1), 0);
        Checks.due("eight", x.table(255, 7), 7);
        Checks.due("eight, others", x.table(1023 - 6, 1), 3);
        Checks.due("nine", x.table(511, -1), -3);
        Checks.due("nine", x.table(511, 0), -3);
        Checks.due("nine", x.table(511, 99), -3);
        Checks.due("ten", x.table(-1, -1), -3);
        Checks.due("ten", x.table(1023, -2), -3);
        // alike ones sit together, 10 wherever two kinds meet; 1 may sit next to 0 as the ring's end brings 3 and 6 back to it
        for (int p = 0; p < 8; p++) {
            x.own(p, new int[] {0, 8, 24}[p % 3]);
        }
        seats(x, 255, 30, 0, 1, 4, 7, 2, 5, 3, 6);
    }

    private static void pairs() {
        CheekTown x = new CheekTown();
        Checks.due("nobody", x.pairs(false), 0);
        Checks.due("nobody", x.pairs(true), 0);
        Checks.town(x, "land;" + WAVES + (";" + WAVES).repeat(5));
        Checks.due("no ties", x.pairs(false), 0);
        Checks.due("who has no ties isn't left out", x.pairs(true), 0);
        x.ties(1, 2);
        Checks.due("one tie", x.pairs(false), 1);
        Checks.due("one tie", x.pairs(true), 0);
        x.ties(0, 1);
        Checks.due("two ties of one", x.pairs(false), 1);
        Checks.due("the first is taken", x.pairs(true), 1);
        x.ties(2, 3);
        // the first tie would be one alone: 0 1 and 2 3 are two
        Checks.due("a chain", x.pairs(false), 2);
        Checks.due("a chain", x.pairs(true), 0);
        x.ties(3, 4);
        // 1 2 and 3 4 leave 0 out; 0 1 and 2 3 or 3 4 come later
        Checks.due("a longer chain", x.pairs(false), 2);
        Checks.due("a longer chain", x.pairs(true), 1);
        x.cut(0);
        // 0 1, 2 3, 3 4: 0 1 and 2 3 are taken
        Checks.due("cut", x.pairs(true), 16);
    }

    private static void manyPairs() {
        CheekTown x = Checks.townOf("land", WAVES + (";" + WAVES).repeat(9));
        int tied = 0;
        for (int p = 0; p < 4; p++) {
            for (int q = 4; q < 10; q++) {
                Checks.due("ties", x.ties(p, q), tied);
                tied++;
            }
        }
        Checks.due("four of one side", x.pairs(false), 4);
        Checks.due("the other side's last are left out", x.pairs(true), 256 + 512);
        while (x.count(3) > 0) {
            x.cut(0);
        }
        for (int p = 0; p < 9; p++) {
            x.ties(p, p + 1);
        }
        Checks.due("ten in a chain", x.pairs(false), 5);
        Checks.due("ten in a chain", x.pairs(true), 0);
        x.cut(8);
        Checks.due("without the last", x.pairs(false), 4);
        Checks.due("0 1, 2 3, 4 5, 6 7 leave 8", x.pairs(true), 256);
    }

    private static void begins() {
        CheekTown x = new CheekTown();
        for (int rule = -1; rule < 3; rule++) {
            Checks.due("nobody", x.begins(rule), 0);
        }
        // tie 1 0: RANKS 2 and 7; tie 1 2: a tie of RANKS; COST 10 each
        Checks.town(x, "land;person 0 wave rank 2 bent 30;person 0 hand rank 7 bent 60;person 0 embrace rank 7 bent 90;tie 1 0;tie 1 2");
        Checks.due("the greater RANK: 1 begins, 1 begins", x.begins(0), 10 * 70 + 10 * 10);
        Checks.due("the lesser RANK: 0 begins, 1 begins", x.begins(1), 10 * 40 + 10 * 10);
        Checks.due("the lesser number: 0 begins, 1 begins", x.begins(2), 10 * 40 + 10 * 10);
        Checks.due("the first of the least", x.begins(-1), 1);
        x.ties(2, 0);
        // 0 and 2: the greater RANK 2, the lesser RANK 0, the lesser number 0
        Checks.due("the greater RANK", x.begins(0), 800 + 700);
        Checks.due("the lesser RANK", x.begins(1), 500 + 100);
        Checks.law(x, "hand if who > 1;wave if who < 1");
        // 0 waves, 1 and 2 give a hand: 1 2 cost nothing
        Checks.due("by what each BEGINS with", x.begins(0), 700 + 700);
        Checks.due("by what each BEGINS with", x.begins(2), 400 + 100);
        Checks.town(x, "person 0 hand rank 1 bent 100;tie 0 3;tie 3 2");
        // 0 (RANK 2) and 3 (RANK 1): the greater RANK: 3 waits: 0; the lesser: 0 waits: 700; the lesser number: 3 waits: 0
        Checks.due("the greater RANK", x.begins(0), 1400);
        Checks.due("the lesser RANK", x.begins(1), 500 + 700);
        Checks.due("the lesser number", x.begins(2), 500);
        Checks.due("the least", x.begins(-1), 2);
        x.cold(0, true);
        x.cut(0);
        x.cut(1);
        Checks.town(x, "stomach 0");
        Checks.due("all cost nothing: the first", x.begins(-1), 0);
        for (int wrong : new int[] {-2, 3, Integer.MAX_VALUE, Integer.MIN_VALUE}) {
            Checks.thrown("begins(" + wrong + ")", Checks.ARGUMENT, () -> x.begins(wrong));
        }
    }
}
