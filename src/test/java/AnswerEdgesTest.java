/** The edges that 'Terms' names in its third part and promises 7 to 11 and 20 to 39: a method for each sentence. */
public final class AnswerEdgesTest {
    private static final String WAVES = "person 0 wave rank 0 bent 0";
    private static final int[] NO_BITS = {1024, 1 << 30, Integer.MIN_VALUE, ~1023};

    public static void main(String[] args) {
        greatestCost();
        habitsOfOne();
        noHabits();
        nobody();
        leastCode();
        odds();
        from();
        fromNone();
        fromSeveral();
        worth();
        rests();
        sakeOfAll();
        sakeOfNoKiss();
        tableSizes();
        tableSeats();
        tableOfNone();
        pairs();
        pairsTied();
        begins();
        beginsBent();
        afterYears();
        customTies();
        asTwoYearsAgo();
        still();
        told();
        toldOneself();
        colds();
        coldsAlongChain();
        spared();
        changedAgo();
        trials();
        spans();
        Checks.finish();
    }

    private static CheekTown manyAlike(int n) {
        return TextEdgesTest.manyPeople(n);
    }

    /** A chain 0 1 2 and so on, the latter ties first. */
    private static CheekTown chain(int n) {
        CheekTown x = manyAlike(n);
        for (int p = n - 1; p > 0; p--) {
            x.ties(p - 1, p);
        }
        return x;
    }

    /** COST at its greatest: 3 times AIR and NOSES, 99 each; and at its least. */
    private static void greatestCost() {
        CheekTown x = Checks.townOf("stomach 99;air 99;noses 99;land;person 0 kiss 1 left rank 0 bent 0;person 0 kiss 4 right rank 0 bent 0");
        Checks.due("kisses", x.cost(16, 23), 396);
        Checks.due("kisses", x.cost(23, 16), 396);
        Checks.due("kisses", x.cost(17, 22), 396);
        Checks.due("KINDS", x.cost(0, 31), 99);
        Checks.due("a meeting", x.meet(0, 1), 396);
        Checks.due("waves", x.cost(0, 7), 0);
        Checks.due("hands", x.cost(8, 15), 0);
        Checks.due("embraces", x.cost(24, 31), 0);
        Checks.town(x, "stomach 0;air 0;noses 0");
        Checks.due("kisses", x.cost(16, 23), 0);
        Checks.due("KINDS", x.cost(0, 31), 0);
    }

    /** "WEIGHT of a GREETING in a LAND (of all HABITS that tell it)": 24 of 9 each. */
    private static void habitsOfOne() {
        CheekTown x = Checks.townOf("stomach 99;air 99;noses 99;land;land");
        String twelve = "habit 1 kiss 1 left weight 9" + ";habit 1 kiss 1 left weight 9".repeat(11);
        Checks.town(x, twelve);
        Checks.town(x, twelve);
        Checks.due("all weight", x.habit(1, 16), 216);
        Checks.due("the other land has none", x.habit(0, 16), 0);
        Checks.due("another SIDE has none", x.habit(1, 17), 0);
        Checks.due("the greatest EXPECTED", x.expected(1, 23), 216 * 396);
        Checks.due("of the same", x.expected(1, 16), 0);
        Checks.due("ODDS", x.odds(1, 16), 10000);
        Checks.due("BEST", x.best(1), 16);
        Checks.due("SAFEST", x.safest(false), 16);
    }

    /** "BEST (0 without HABITS)", "SAFEST .. (0 without HABITS)", ODDS "(0 without)", LIKELY "0 without HABITS". */
    private static void noHabits() {
        CheekTown x = Checks.townOf("land;land;land;land;land;land;" + WAVES);
        for (int land = 0; land < 6; land++) {
            Checks.due("EXPECTED", x.expected(land, 31), 0);
            Checks.due("BEST", x.best(land), 0);
            Checks.due("ODDS", x.odds(land, 0), 0);
        }
        Checks.due("SAFEST", x.safest(false), 0);
        Checks.due("its COST", x.safest(true), 0);
        Checks.due("LANDS", Checks.from(x, false), 0);
        Checks.due("that of the greatest", Checks.from(x, true), -1);
        Checks.due("WORTH", x.worth(), 0);
        Checks.town(x, "habit 5 embrace weight 1");
        Checks.due("BEST elsewhere", x.best(4), 0);
        Checks.due("BEST", x.best(5), 24);
        Checks.due("ODDS", x.odds(5, 24), 10000);
        Checks.due("ODDS elsewhere", x.odds(4, 24), 0);
        Checks.due("LANDS", Checks.from(x, false), 32);
        Checks.due("that of the greatest", Checks.from(x, true), 5);
        Checks.due("SAFEST", x.safest(false), 24);
    }

    /** A new object has nobody: what asks for all has an answer. */
    private static void nobody() {
        CheekTown x = new CheekTown();
        Checks.due("SAFEST", x.safest(false) + x.safest(true), 0);
        Checks.due("WORTH", x.worth(), 0);
        Checks.due("TABLE", x.table(-1, -1), 0);
        Checks.due("who sits", x.table(-1, 0), -1);
        Checks.due("PAIRS", x.pairs(false), 0);
        Checks.due("LEFT OUT", x.pairs(true), 0);
        Checks.due("WHO BEGINS", x.begins(0) + x.begins(1) + x.begins(2), 0);
        Checks.due("of several the first", x.begins(-1), 0);
        for (int n : new int[] {0, 1, 60}) {
            Checks.due("GREETINGS", x.after(n, 0), 0);
            Checks.due("none without PEOPLE", x.after(n, 1), -1);
            Checks.due("how many have it", x.after(n, 2), 0);
            Checks.due("TOLD", x.told(31, n), 0);
        }
        Checks.due("STILL", x.still(), 0);
        Checks.due("COLDS", x.colds(-1, 20), 0);
        Checks.due("CHANGED", x.changed(false), 0);
        Checks.due("how often", x.changed(true), 0);
        for (int what = 0; what < 4; what++) {
            Checks.due("TRIAL", x.trial(20, what), 0);
        }
        Checks.due("SPAN", x.span(20, false) + x.span(20, true), 0);
        Checks.due("LANDS", Checks.from(x, false, 0, 8, 16, 31), 0);
        Checks.due("that of the greatest", Checks.from(x, true, 0, 8, 16, 31), -1);
    }

    /** BEST and SAFEST: "of several the least CODE". */
    private static void leastCode() {
        CheekTown x = Checks.townOf("land;habit 0 hand weight 5;habit 0 embrace weight 5");
        Checks.due("hand and embrace", x.best(0), 8);
        Checks.due("all cost 10 somewhere", x.safest(false), 0);
        Checks.town(x, "habit 0 wave weight 5");
        Checks.due("wave, hand, embrace", x.best(0), 0);
        Checks.town(x, "habit 0 embrace weight 1");
        Checks.due("embrace by one more", x.best(0), 24);
        CheekTown y = Checks.townOf("land;habit 0 kiss 1 right weight 1;habit 0 kiss 3 right weight 1");
        Checks.due("1, 2 and 3 right cost alike", y.best(0), 17);
        Checks.due("2 right is safest", y.safest(false), 19);
        Checks.due("its COST", y.safest(true), 2);
        CheekTown z = Checks.townOf("land;habit 0 embrace weight 1;stomach 0");
        Checks.due("all cost nothing", z.best(0), 0);
        Checks.due("all cost nothing", z.safest(false), 0);
    }

    /** "in ten-thousandths, rounded down". */
    private static void odds() {
        CheekTown x = Checks.townOf("land;habit 0 wave weight 1;habit 0 hand weight 2");
        Checks.due("1 of 3", x.odds(0, 0), 3333);
        Checks.due("2 of 3", x.odds(0, 8), 6666);
        Checks.town(x, "habit 0 hand weight 4");
        Checks.due("1 of 7", x.odds(0, 0), 1428);
        Checks.due("6 of 7", x.odds(0, 8), 8571);
        Checks.town(x, "habit 0 hand weight 9" + ";habit 0 hand weight 9".repeat(13));
        Checks.town(x, "habit 0 hand weight 9" + ";habit 0 hand weight 9".repeat(5));
        Checks.due("1 of 187", x.odds(0, 0), 53);
        Checks.due("186 of 187", x.odds(0, 8), 9946);
        Checks.due("none of 187", x.odds(0, 31), 0);
    }

    /** "of each GREETING a byte: its CODE; at most 4", "the TAPE is not that (none may be told)". */
    private static void from() {
        CheekTown x = Checks.townOf("land;land;habit 1 wave weight 2;habit 1 embrace weight 1");
        int[] waves = {};
        for (int n = 0; n <= 4; n++) {
            Checks.due(n + " waves", Checks.from(x, false, waves), 2);
            Checks.due(n + " waves", Checks.from(x, true, waves), 1);
            waves = new int[n + 1];
        }
        Checks.thrown("five waves", Checks.ARGUMENT, () -> Checks.from(x, false, 0, 0, 0, 0, 0));
        x.feed(0, 0, 0, 0, 0);
        Checks.thrown("twenty waves", Checks.ARGUMENT, () -> x.from(true));
        for (int last : new int[] {32, 127, 128, 255}) {
            Checks.thrown("a byte " + last, Checks.ARGUMENT, () -> Checks.from(x, false, last));
            Checks.thrown("a fourth byte " + last, Checks.ARGUMENT, () -> Checks.from(x, true, 0, 0, 0, last));
        }
        Checks.due("31", Checks.from(x, false, 31), 0);
        Checks.due("0 and 24", Checks.from(x, false, 0, 24), 2);
    }

    /** "LANDS where it is above 0, as bits; .. none if all are 0": one WEIGHT of 0 is enough. */
    private static void fromNone() {
        CheekTown x = Checks.townOf("land;land;land;land;land;land;habit 0 wave weight 9;habit 5 wave weight 1;habit 5 hand weight 9");
        Checks.due("a wave", Checks.from(x, false, 0), 33);
        Checks.due("a hand", Checks.from(x, false, 8), 32);
        Checks.due("a hand", Checks.from(x, true, 8), 5);
        Checks.due("three hands and a wave", Checks.from(x, true, 8, 8, 8, 0), 5);
        Checks.due("three waves and an embrace", Checks.from(x, false, 0, 0, 0, 24), 0);
        Checks.due("three waves and an embrace", Checks.from(x, true, 0, 0, 0, 24), -1);
        Checks.due("another wave is none of the habits", Checks.from(x, true, 1), -1);
    }

    /** "that of the greatest (of several the least)", by fractions and not by WEIGHTS alone. */
    private static void fromSeveral() {
        CheekTown x = Checks.townOf("land;land;land;habit 1 wave weight 1;habit 1 hand weight 1;habit 2 wave weight 3;habit 2 hand weight 3");
        Checks.due("1 of 2 and 3 of 6", Checks.from(x, true, 0), 1);
        Checks.due("1 of 16 and 81 of 1296", Checks.from(x, true, 0, 8, 8, 0), 1);
        Checks.town(x, "habit 2 wave weight 1");
        Checks.due("4 of 7 is more", Checks.from(x, true, 0), 2);
        Checks.due("a hand: 3 of 7 is less", Checks.from(x, true, 8), 1);
        Checks.due("a wave and a hand: 12 of 49 is less than 1 of 4", Checks.from(x, true, 0, 8), 1);
        Checks.town(x, "habit 0 wave weight 9;habit 0 hand weight 7");
        Checks.due("9 of 16 is less than 4 of 7", Checks.from(x, true, 0), 2);
    }

    /** "each LAND counts by how many PEOPLE are of it": one without PEOPLE, or without HABITS, counts for nothing. */
    private static void worth() {
        CheekTown x = Checks.townOf("land;land;land;land;habit 0 wave weight 9;habit 1 hand weight 9;habit 3 embrace weight 9");
        Checks.due("nobody", x.worth(), 0);
        Checks.town(x, WAVES + (";" + WAVES).repeat(8));
        Checks.due("nine of one LAND", x.worth(), 0);
        x.image();
        Checks.town(x, "person 2 wave rank 0 bent 0");
        Checks.due("one of a LAND without HABITS", x.worth(), 0);
        x.back();
        Checks.town(x, "person 1 wave rank 0 bent 0");
        Checks.due("a wave for all: one is met by 90", x.worth(), 90);
    }

    /** "COST as it is, and 1 more for who takes the other's": at COSTS of 0, 1, 2 and the greatest. */
    private static void rests() {
        CheekTown x = Checks.townOf("land;" + WAVES + ";person 0 hand rank 9 bent 100");
        int[][] due = {{0, 1}, {1, 7}, {2, 6}, {99, 6}};
        for (int[] stomach : due) {
            Checks.town(x, "stomach " + stomach[0]);
            Checks.due("at a COST of " + stomach[0], x.rests(0, 1), stomach[1]);
            Checks.due("at a COST of " + stomach[0], x.rests(1, 0), stomach[1]);
        }
        x.own(1, 7);
        Checks.due("two waves, unlike by their CODE", x.rests(0, 1), 1);
        x.own(1, 0);
        Checks.due("one and the same", x.rests(0, 1), 1);
        Checks.town(x, "air 99;noses 99");
        x.own(0, 16);
        x.own(1, 23);
        Checks.due("at a COST of 396", x.rests(0, 1), 6);
    }

    /** "behind how many their COUNTS are one (0: now); none, if never": for all COUNTS and SIDES. */
    private static void sakeOfAll() {
        int[] both = {0, -1, 1, -1};
        for (int a = 16; a < 24; a++) {
            CheekTown x = manyAlike(2);
            x.own(0, a);
            for (int b = 16; b < 24; b++) {
                x.own(1, b);
                int apart = Math.abs(a / 2 - b / 2);
                Checks.due("SAKE of " + a + " and " + b, x.sake(0, 1, false), both[apart]);
                Checks.due("SAKE of " + b + " and " + a, x.sake(1, 0, false), both[apart]);
                Checks.due("LED of " + a + " and " + b, x.sake(0, 1, true), apart);
                Checks.due("LED of " + b + " and " + a, x.sake(1, 0, true), apart);
            }
        }
    }

    /** "none, if .. one's OWN is no kiss", though the COUNTS of both be one. */
    private static void sakeOfNoKiss() {
        CheekTown x = manyAlike(2);
        for (int g : new int[] {0, 7, 8, 15, 24, 31}) {
            for (int h : new int[] {16, 23, g}) {
                x.own(0, g);
                x.own(1, h);
                Checks.due("SAKE of " + g + " and " + h, x.sake(0, 1, false), -1);
                Checks.due("SAKE of " + h + " and " + g, x.sake(1, 0, false), -1);
                Checks.due("LED of " + g + " and " + h, x.sake(0, 1, true), -1);
                Checks.due("LED of " + h + " and " + g, x.sake(1, 0, true), -1);
            }
        }
    }

    /** Each is unlike the next three: wave, hand, kiss, embrace, and again. */
    private static CheekTown fourKinds() {
        CheekTown x = manyAlike(10);
        for (int p = 0; p < 10; p++) {
            x.own(p, p % 4 * 8);
        }
        return x;
    }

    /** "at most 8, else -3", "each pair that are neighbours once; of two once; of fewer 0". */
    private static void tableSizes() {
        CheekTown x = fourKinds();
        int[] sets = {0, 1, 512, 3, 17, 7, 15, 31, 63, 127, 255, 1020};
        int[] costs = {0, 0, 0, 10, 0, 30, 40, 40, 40, 40, 40, 40};
        for (int i = 0; i < sets.length; i++) {
            Checks.due("table(" + sets[i] + ", NONE)", x.table(sets[i], -1), costs[i]);
        }
        for (int set : new int[] {511, 1022, 1023, 1023 - 32, -1, Integer.MAX_VALUE}) {
            for (int k : new int[] {-1, 0, 7, 8, 9, -2, Integer.MIN_VALUE, Integer.MAX_VALUE}) {
                Checks.due("table(" + set + ", " + k + ")", x.table(set, k), -3);
            }
        }
    }

    /** "who sits k-th (from 0 on)" in "the first such order (by numbers, the least of the set first)"; "none". */
    private static void tableSeats() {
        CheekTown x = fourKinds();
        int[][] seats = {{}, {9}, {0, 3}, {1, 5}, {5, 6, 7}, {0, 1, 4}, {0, 1, 2, 3}, {0, 1, 2, 3, 4}, {0, 1, 5, 2, 6, 3, 7, 4}};
        for (int[] order : seats) {
            int set = 0;
            for (int p : order) {
                set |= 1 << p;
            }
            for (int k = 0; k < order.length; k++) {
                Checks.due("table(" + set + ", " + k + ")", x.table(set, k), order[k]);
            }
            for (int k : new int[] {order.length, order.length + 1, 8, -2, Integer.MIN_VALUE, Integer.MAX_VALUE}) {
                Checks.due("table(" + set + ", " + k + ")", x.table(set, k), -1);
            }
        }
        CheekTown y = manyAlike(10);
        for (int k = 0; k < 8; k++) {
            Checks.due("all alike: by numbers", y.table(1020, k), k + 2);
        }
    }

    /** Sets are bits; of none they count for nothing. */
    private static void tableOfNone() {
        CheekTown x = manyAlike(8);
        Checks.due("eight, and 24 that are none", x.table(-1, -1), 0);
        Checks.due("the last one", x.table(-1, 7), 7);
        Checks.due("none of these is there", x.table(~255, -1), 0);
        Checks.due("none of these is there", x.table(~255, 0), -1);
        Checks.due("one, and none", x.table(Integer.MIN_VALUE + 128, 0), 7);
        Checks.due("no second one", x.table(Integer.MIN_VALUE + 128, 1), -1);
    }

    /** "the most TIES that can meet at once, nobody twice", of none, one, all of one, a ring, 24. */
    private static void pairs() {
        CheekTown x = manyAlike(10);
        Checks.due("no ties", x.pairs(false), 0);
        x.ties(9, 0);
        Checks.due("one", x.pairs(false), 1);
        for (int p = 1; p < 9; p++) {
            x.ties(p, 9);
        }
        Checks.due("all of one", x.pairs(false), 1);
        CheekTown ring = manyAlike(10);
        for (int p = 0; p < 10; p++) {
            Checks.due("a chain of " + (p + 1), ring.pairs(false), (p + 1) / 2);
            ring.ties(p, (p + 1) % 10);
        }
        Checks.due("a ring", ring.pairs(false), 5);
        CheekTown y = manyAlike(10);
        TextEdgesTest.tieMany(y, 24);
        Checks.due("all ties are of 0, 1 or 2", y.pairs(false), 3);
        // 0 1, 0 2 and 1 2 would leave two pairs alone: 0 3, 1 4, 2 5
        Checks.due("LEFT OUT", y.pairs(true), 64 + 128 + 256 + 512);
    }

    /** "PEOPLE who have TIES and are LEFT OUT in the first such choice". */
    private static void pairsTied() {
        CheekTown x = manyAlike(10);
        Checks.due("nobody has ties", x.pairs(true), 0);
        x.ties(8, 9);
        Checks.due("both meet", x.pairs(true), 0);
        x.ties(8, 0);
        Checks.due("the first tie is taken", x.pairs(true), 1);
        x.cut(0);
        x.ties(9, 8);
        Checks.due("now the other one is the first", x.pairs(true), 512);
        x.cut(0);
        x.cut(0);
        Checks.due("nobody has ties any more", x.pairs(true), 0);
        CheekTown nine = manyAlike(10);
        for (int p = 0; p < 9; p++) {
            nine.ties(p, (p + 1) % 9);
        }
        Checks.due("a ring of nine", nine.pairs(false), 4);
        Checks.due("0 1, 2 3, 4 5, 6 7; 9 has no ties", nine.pairs(true), 256);
    }

    /** "by a rule (0 .. 2): all together, or (rule NONE) the rule of the least"; "a tie of RANKS: the lesser number". */
    private static void begins() {
        CheekTown x = Checks.townOf("land;air 99;noses 99");
        String low = "person 0 kiss 1 left rank 9 bent 0";
        String high = "person 0 kiss 4 right rank 9 bent 0";
        Checks.town(x, low + (";" + low).repeat(3));
        Checks.town(x, high + (";" + high).repeat(5));
        for (int rule = 0; rule < 3; rule++) {
            Checks.due("no ties", x.begins(rule), 0);
        }
        Checks.due("no ties: the first", x.begins(-1), 0);
        for (int p = 0; p < 4; p++) {
            for (int q = 4; q < 10; q++) {
                x.ties(q, p);
            }
        }
        for (int rule = 0; rule < 3; rule++) {
            Checks.due("the greatest of all", x.begins(rule), 24 * 396 * 100);
        }
        Checks.due("all alike: the first", x.begins(-1), 0);
        CheekTown y = Checks.townOf("land;person 0 wave rank 5 bent 100;person 0 hand rank 5 bent 0;tie 1 0");
        for (int rule = 0; rule < 3; rule++) {
            Checks.due("a tie of RANKS: 0 begins, 1 waits", y.begins(rule), 1000);
        }
    }

    /** "COST of both BEGINS times (100 less BENT of the one who doesn't begin)"; each rule is somewhere alone the least. */
    private static void beginsBent() {
        int[][] ranks = {{5, 6, 4, 4}, {6, 5, 4, 4}, {5, 4, 4, 5}};
        int[][] bents = {{100, 0, 0, 0}, {100, 0, 0, 0}, {0, 100, 0, 100}};
        // 2 and 3 are of one RANK at first: 2 begins, 3 waits, 1000 more for each
        int[][] due = {{1000, 2000, 2000}, {2000, 1000, 2000}, {1000, 1000, 0}};
        for (int i = 0; i < 3; i++) {
            CheekTown x = Checks.townOf("land");
            for (int p = 0; p < 4; p++) {
                Checks.town(x, "person 0 " + (p % 2 == 0 ? "wave" : "hand") + " rank " + ranks[i][p] + " bent " + bents[i][p]);
            }
            Checks.town(x, "tie 1 0;tie 2 3");
            for (int rule = 0; rule < 3; rule++) {
                Checks.due("rule " + rule, x.begins(rule), due[i][rule]);
            }
            Checks.due("the least", x.begins(-1), i);
        }
    }

    /** "AFTER N YEARS (0 to 60): .. (of several the least CODE ..)". */
    private static void afterYears() {
        CheekTown x = manyAlike(10);
        for (int p = 0; p < 10; p++) {
            x.own(p, 31 - p);
        }
        for (int n : new int[] {0, 1, 59, 60}) {
            Checks.due("GREETINGS", x.after(n, 0), 10);
            Checks.due("of several the least CODE", x.after(n, 1), 22);
            Checks.due("how many have it", x.after(n, 2), 1);
            Checks.due("custom of the last one", x.custom(9, n), 22);
        }
        x.feast(-1, 31);
        for (int n : new int[] {0, 60}) {
            Checks.due("one alone", x.after(n, 0), 1);
            Checks.due("the greatest CODE", x.after(n, 1), 31);
            Checks.due("all have it", x.after(n, 2), 10);
        }
        Checks.thrown("61", Checks.ARGUMENT, () -> x.after(61, 0));
        Checks.thrown("61", Checks.ARGUMENT, () -> x.custom(0, 61));
        Checks.thrown("61", Checks.ARGUMENT, () -> x.told(0, 61));
    }

    /** "of several OWN, if it is one of these; else the least CODE": of 0, who is tied to all others. */
    private static void customTies() {
        CheekTown x = manyAlike(7);
        for (int p = 1; p < 7; p++) {
            x.ties(p, 0);
        }
        int[][] owns = {{24, 0, 0, 0, 8, 8, 8}, {24, 31, 31, 31, 8, 8, 8}, {8, 0, 0, 0, 8, 8, 24}, {31, 0, 0, 0, 0, 31, 31},
            {24, 1, 0, 1, 0, 7, 7}, {6, 5, 4, 3, 2, 1, 0}, {31, 1, 2, 3, 4, 5, 5}};
        int[] due = {0, 8, 8, 0, 0, 6, 5};
        for (int i = 0; i < owns.length; i++) {
            for (int p = 0; p < 7; p++) {
                x.own(p, owns[i][p]);
            }
            Checks.due("custom of 0, " + i, x.custom(0, 1), due[i]);
            Checks.due("one tie alone: a tie, OWN", x.custom(6, 1), owns[i][6]);
        }
    }

    /** Behind two YEARS all but 0 are as at first, and yet it goes on. */
    private static void asTwoYearsAgo() {
        CheekTown x = manyAlike(5);
        Checks.town(x, "tie 4 1;tie 1 0;tie 4 2;tie 2 0;tie 3 0");
        x.feast(2 + 4 + 8, 8);
        int[][] due = {{0, 8, 8, 8, 0}, {8, 0, 0, 8, 8}, {8, 8, 8, 8, 0}, {8, 8, 8, 8, 8}, {8, 8, 8, 8, 8}};
        for (int n = 0; n < due.length; n++) {
            for (int p = 0; p < 5; p++) {
                Checks.due("custom(" + p + ", " + n + ")", x.custom(p, n), due[n][p]);
            }
        }
        Checks.due("one GREETING", x.after(60, 0), 1);
        Checks.due("still", x.still(), 3);
    }

    /** "in how many YEARS (0 to 60) nobody changes any more; none". */
    private static void still() {
        CheekTown x = manyAlike(10);
        Checks.due("all alike, untied", x.still(), 0);
        x.own(0, 8);
        Checks.due("untied", x.still(), 0);
        x.ties(0, 1);
        Checks.due("a tie keeps OWN", x.still(), 0);
        x.ties(2, 0);
        Checks.due("two waves about 0", x.still(), 1);
        CheekTown swap = Checks.townOf("land;person 0 wave rank 0 bent 0;person 0 hand rank 0 bent 0;person 0 wave rank 0 bent 0;"
            + "person 0 hand rank 0 bent 0;tie 0 1;tie 1 2;tie 2 3;tie 3 0");
        Checks.due("to and fro", swap.still(), -1);
        swap.own(0, 8);
        Checks.due("three hands", swap.still(), 1);
    }

    /**
     * "the fewest PEOPLE who must be told .. so that all have it AFTER N YEARS: of several the least as bits". In a
     * chain both ends keep theirs, two waves beside one another keep theirs for good, and of waves that alternate with
     * hands two a year go, from both sides.
     */
    private static void told() {
        CheekTown x = chain(10);
        Checks.due("now: all", x.told(8, 0), 1023);
        Checks.due("in a year: all but 2, 5, 8", x.told(8, 1), 1023 - 4 - 32 - 256);
        Checks.due("in two: all but 1, 3, 6, 8", x.told(8, 2), 1023 - 2 - 8 - 64 - 256);
        Checks.due("in three: all but 1, 4, 6, 8", x.told(8, 3), 1023 - 2 - 16 - 64 - 256);
        for (int n : new int[] {4, 5, 59, 60}) {
            Checks.due("in " + n + ": all but 2, 4, 6, 8", x.told(8, n), 1023 - 4 - 16 - 64 - 256);
        }
        for (int n : new int[] {0, 1, 60}) {
            Checks.due("none must", x.told(0, n), 0);
        }
    }

    /** "0, if none must"; who has it already must not be told, who is alone must. */
    private static void toldOneself() {
        CheekTown x = manyAlike(1);
        for (int n : new int[] {0, 60}) {
            Checks.due("one who has it", x.told(0, n), 0);
            Checks.due("one who has it not", x.told(31, n), 1);
        }
        CheekTown y = chain(3);
        y.own(0, 8);
        Checks.due("now: both others", y.told(8, 0), 6);
        Checks.due("in a year: the other end", y.told(8, 1), 4);
        Checks.due("in 60", y.told(8, 60), 4);
        Checks.due("back to waves", y.told(0, 60), 1);
        y.own(2, 8);
        Checks.due("now: the midst", y.told(8, 0), 2);
        Checks.due("in a year: none must", y.told(8, 1), 0);
        CheekTown untied = manyAlike(10);
        untied.own(4, 8);
        Checks.due("untied: all others", untied.told(8, 60), 1023 - 16);
    }

    /** "Sets are bits; of none they count for nothing": who waves keeps a COLD, and passes none on. */
    private static void colds() {
        CheekTown x = chain(10);
        Checks.due("none has one", x.colds(0, 20), 0);
        x.cold(0, true);
        Checks.due("now", x.colds(0, 0), 1);
        Checks.due("now, waving", x.colds(-1, 0), 1);
        Checks.due("all wave", x.colds(-1, 20), 1);
        Checks.due("who has it waves", x.colds(1, 20), 1);
        Checks.due("5 waves", x.colds(32, 20), 31);
        for (int none : NO_BITS) {
            Checks.due("none that there is wave", x.colds(none, 20), 1023);
        }
        Checks.thrown("21", Checks.ARGUMENT, () -> x.colds(0, 21));
        Checks.thrown("-1", Checks.ARGUMENT, () -> x.colds(0, -1));
    }

    /** "TIES by numbers, ROUND by ROUND": up the chain one a ROUND, down the chain all in one. */
    private static void coldsAlongChain() {
        CheekTown x = chain(10);
        x.cold(0, true);
        for (int n = 0; n <= 20; n++) {
            Checks.due("up, by " + n, x.colds(0, n), (1 << Math.min(n + 1, 10)) - 1);
        }
        x.cold(0, false);
        x.cold(9, true);
        Checks.due("down, by 0", x.colds(0, 0), 512);
        for (int n : new int[] {1, 2, 20}) {
            Checks.due("down, by " + n, x.colds(0, n), 1023);
        }
    }

    /** "-2, if one has one now (else the set of all others does)"; "of several the least as bits". */
    private static void spared() {
        CheekTown x = chain(10);
        Checks.due("no colds", x.spared(5, 20), 0);
        x.cold(0, true);
        for (int n : new int[] {0, 20}) {
            Checks.due("one has one", x.spared(0, n), -2);
        }
        for (int p = 1; p < 10; p++) {
            Checks.due("too far by one", x.spared(p, p - 1), 0);
            Checks.due("the least waves", x.spared(p, p), 1);
            Checks.due("the least waves", x.spared(p, 20), 1);
        }
        x.cold(9, true);
        Checks.due("from both sides, 8 or 9 and 0 or 1", x.spared(5, 20), 1 + 64);
        Checks.due("the other end alone is near", x.spared(5, 4), 64);
        CheekTown two = manyAlike(2);
        two.ties(0, 1);
        two.cold(1, true);
        Checks.due("all others", two.spared(0, 20), 2);
        Checks.due("now", two.spared(0, 0), 0);
        Checks.due("has one", two.spared(1, 0), -2);
        CheekTown alone = manyAlike(1);
        Checks.due("no others", alone.spared(0, 20), 0);
    }

    /** CHANGED "by THE LOG": both times must be in it. Two who never yield take each other's, again and again. */
    private static void changedAgo() {
        CheekTown x = Checks.townOf("land;person 0 wave rank 0 bent 0;person 0 hand rank 0 bent 0;tie 1 0");
        x.rounds(1);
        Checks.due("one time", x.changed(true), 0);
        Checks.due("nobody", x.changed(false), 0);
        x.rounds(1);
        Checks.due("two times", x.changed(true), 2);
        Checks.due("both", x.changed(false), 3);
        x.rounds(50);
        Checks.due("52 times", x.changed(true), 102);
        x.rounds(8);
        Checks.due("60 times", x.changed(true), 118);
        x.rounds(1);
        Checks.due("61 times", x.changed(true), 118);
        x.rounds(50);
        Checks.due("111 times", x.changed(true), 118);
        x.undo();
        x.undo();
        x.undo();
        Checks.due("52 times again", x.changed(true), 102);
    }

    /** "TRIAL of N ROUNDS (0 to 20) from now": of none all is as now. */
    private static void trials() {
        CheekTown x = Checks.townOf("land;person 0 wave rank 0 bent 100;person 0 hand rank 0 bent 100;tie 1 0;cold 0");
        Checks.law(x, "wave if who < 1;hand");
        int[][] due = {{0, 0, 0, 2, 1}, {1, 5, 1, 2, 3}, {2, 10, 2, 2, 3}, {3, 15, 3, 1, 3}, {20, 100, 20, 1, 3}};
        for (int[] row : due) {
            for (int what = 0; what < 4; what++) {
                Checks.due("trial(" + row[0] + ", " + what + ")", x.trial(row[0], what), row[what + 1]);
            }
        }
        Checks.due("twenty", x.rounds(20), 100);
        Checks.due("from now: COST of these alone", x.trial(2, 0), 10);
        Checks.due("from now: YIELDED in these alone", x.trial(2, 1), 2);
        Checks.due("of none", x.trial(0, 0) + x.trial(0, 1), 0);
        Checks.thrown("21", Checks.ARGUMENT, () -> x.trial(21, 0));
    }

    /** "SPAN: .. from SEED 1, 2, .. 6": neither from 0 nor from 7, nor from the one by now. */
    private static void spans() {
        for (int bent = 0; bent <= 100; bent++) {
            CheekTown x = Checks.townOf("land;person 0 wave rank 0 bent " + bent + ";person 0 hand rank 1 bent 0;tie 0 1");
            int fewest = 10;
            int most = 5;
            for (int seed = 1; seed <= 6; seed++) {
                int cost = (1103515245 * seed + 12345 >>> 16) % 32768 % 100 < bent ? 5 : 10;
                fewest = Math.min(fewest, cost);
                most = Math.max(most, cost);
            }
            for (int seed : new int[] {0, 1, 7, -1}) {
                x.seed(seed);
                Checks.due("the fewest, BENT " + bent, x.span(1, false), fewest);
                Checks.due("the most, BENT " + bent, x.span(1, true), most);
            }
            Checks.due("of none", x.span(0, false) + x.span(0, true), 0);
        }
        CheekTown y = Checks.townOf("land;person 0 wave rank 0 bent 0;person 0 hand rank 1 bent 0;tie 0 1");
        Checks.due("twenty", y.span(20, false), 200);
        Checks.due("twenty", y.span(20, true), 200);
        Checks.thrown("21", Checks.ARGUMENT, () -> y.span(21, false));
    }
}
