/** The edges that 'Terms' names in its second part and promises 12 to 19 and 40 to 45: a method for each sentence. */
public final class MeetingEdgesTest {
    private static final String WAVES = "person 0 wave rank 0 bent 0";
    private static final int[] SEEDS = {1, 0, -1, 2, 3, 12345, -12345, 65535, 65536, 1 << 30, Integer.MAX_VALUE, Integer.MIN_VALUE};

    public static void main(String[] args) {
        noCost();
        seedGoesRound();
        below();
        never();
        both();
        half();
        askedFirst();
        latestTimes();
        alreadyOwn();
        waves();
        minutes();
        met();
        round();
        roundsOfOneCall();
        logOfSixty();
        logUndone();
        own();
        cold();
        cut();
        feast();
        twelveActs();
        thirteenth();
        actsThatChangeNothing();
        textForgets();
        undoLeaves();
        image();
        imageOfNobody();
        count();
        Checks.finish();
    }

    private static CheekTown two(String first, String second) {
        return Checks.townOf("land;person 0 " + first + ";person 0 " + second);
    }

    private static int nextSeed(int seed) {
        return (int) (1103515245L * seed + 12345L);
    }

    private static int drawFrom(int seed) {
        long unsigned = nextSeed(seed) & 0xFFFFFFFFL;
        return (int) (unsigned / 65536 % 32768 % 100);
    }

    /** "If the COST of both GREETINGS is above 0": else nobody is asked, and nothing is drawn. */
    private static void noCost() {
        CheekTown x = two("wave rank 0 bent 100", "hand rank 0 bent 100");
        Checks.town(x, "stomach 0");
        Checks.due("unlike, at no COST", x.meet(0, 1), 0);
        Checks.due("nobody YIELDED", x.count(9), 0);
        Checks.due("0 DID what it BEGAN with", x.log(0, 5), 0);
        Checks.due("1 DID what it BEGAN with", x.log(0, 6), 8);
        Checks.due("no DRAW", x.seed(1), 1);
        CheekTown y = two("wave rank 0 bent 100", "hand rank 0 bent 100");
        Checks.town(y, "stomach 1");
        Checks.due("at a COST of 1", y.meet(0, 1), 0);
        Checks.due("one YIELDED", y.count(9), 1);
        Checks.due("one DRAW", y.seed(1), nextSeed(1));
    }

    /** "SEED is 1103515245 times SEED and 12345, as an int that goes round; bits 16 to 30". */
    private static void seedGoesRound() {
        CheekTown x = two("wave rank 0 bent 0", "hand rank 0 bent 0");
        Checks.law(x, "wave if who < 1;hand");
        boolean above = false;
        boolean belowNothing = false;
        for (int seed : SEEDS) {
            x.seed(seed);
            x.meet(0, 1);
            Checks.due("SEED behind two draws from " + seed, x.seed(0), nextSeed(nextSeed(seed)));
            above |= nextSeed(seed) > 0;
            belowNothing |= nextSeed(seed) < 0;
            int draw = drawFrom(seed);
            Checks.due("a BENT of one more than " + draw, costOf(seed, draw + 1), 5);
            Checks.due("a BENT of " + draw, costOf(seed, draw), 10);
        }
        Checks.due("some went round, some didn't", above && belowNothing, true);
    }

    private static int costOf(int seed, int bent) {
        CheekTown x = two("wave rank 0 bent " + bent, "hand rank 1 bent 0");
        x.seed(seed);
        return x.meet(0, 1);
    }

    /** "DRAW modulo 100 below BENT": a DRAW of 0 isn't below 0, one of 99 is below 100 alone. */
    private static void below() {
        int none = 0;
        int most = 0;
        while (drawFrom(none) != 0) {
            none++;
        }
        while (drawFrom(most) != 99) {
            most++;
        }
        Checks.due("0 isn't below 0", costOf(none, 0), 10);
        Checks.due("0 is below 1", costOf(none, 1), 5);
        Checks.due("99 isn't below 99", costOf(most, 99), 10);
        Checks.due("99 is below 100", costOf(most, 100), 5);
    }

    /** BENT 0 never yields, BENT 100 always. */
    private static void never() {
        for (int seed : SEEDS) {
            CheekTown x = two("wave rank 0 bent 0", "hand rank 0 bent 100");
            x.seed(seed);
            Checks.due("the other one YIELDS", x.meet(0, 1), 5);
            Checks.due("0 DID what it BEGAN with", x.log(0, 5), 0);
            Checks.due("1 DID what 0 BEGAN with", x.log(0, 6), 0);
            Checks.due("two draws", x.seed(0), nextSeed(nextSeed(seed)));
        }
    }

    /** "if not, the other one likewise": at most one of both YIELDS. */
    private static void both() {
        CheekTown x = two("wave rank 0 bent 100", "hand rank 0 bent 100");
        x.meet(0, 1);
        Checks.due("one YIELDED", x.count(9), 1);
        Checks.due("0 DID what 1 BEGAN with", x.log(0, 5), 8);
        Checks.due("1 DID what it BEGAN with", x.log(0, 6), 8);
        Checks.due("one draw", x.seed(0), nextSeed(1));
    }

    /** "the COST is the half, rounded down", if one YIELDS; else it is whole. */
    private static void half() {
        for (int stomach : new int[] {1, 2, 3, 50, 98, 99}) {
            for (int bent = 0; bent <= 100; bent += 100) {
                CheekTown x = two("wave rank 0 bent " + bent, "hand rank 0 bent " + bent);
                Checks.town(x, "stomach " + stomach);
                int due = bent == 0 ? stomach : (stomach - stomach % 2) / 2;
                Checks.due("COST of a meeting, of " + stomach, x.meet(1, 0), due);
                Checks.due("COST in THE LOG", x.log(0, 7), due);
                Checks.due("COST of all", x.count(8), due);
            }
        }
    }

    /** "who is of the lesser RANK (a tie: the lesser number) is asked first", whoever is told first. */
    private static void askedFirst() {
        int[][] ranks = {{0, 9}, {9, 0}, {8, 9}, {9, 8}, {0, 0}, {9, 9}};
        int[] first = {0, 1, 0, 1, 0, 0};
        for (int i = 0; i < ranks.length; i++) {
            for (int told = 0; told < 2; told++) {
                CheekTown x = two("wave rank " + ranks[i][0] + " bent 100", "hand rank " + ranks[i][1] + " bent 100");
                x.meet(told, 1 - told);
                Checks.due("who YIELDED of " + ranks[i][0] + " and " + ranks[i][1], x.log(0, 5) == 8 ? 0 : 1, first[i]);
                Checks.due("what 1 DID", x.log(0, 6), first[i] == 0 ? 8 : 0);
            }
        }
    }

    /** "who SAW the same GREETING now and at both latest times ahead of that": not the first time, nor the second. */
    private static void latestTimes() {
        CheekTown x = two("wave rank 0 bent 0", "hand rank 0 bent 0");
        Checks.law(x, "wave if who < 1;embrace if met > 4;kiss 1 left if met > 2 and met < 4;hand");
        // 0 sees hand, hand, hand, kiss, hand, embrace, embrace, embrace
        int[] due = {0, 0, 8, 0, 0, 0, 0, 24};
        for (int i = 0; i < due.length; i++) {
            x.meet(i % 2, 1 - i % 2);
            Checks.due("OWN of 0 behind meeting " + (i + 1), x.person(0, 1), due[i]);
            x.own(0, 0);
        }
        Checks.due("1 saw waves alone", x.person(1, 1), 0);
        CheekTown y = two("wave rank 0 bent 0", "hand rank 0 bent 0");
        Checks.law(y, "wave if who < 1;embrace if met > 1;hand");
        for (int i = 0; i < 4; i++) {
            y.meet(0, 1);
            Checks.due("hand, hand, embrace, embrace", y.person(0, 1), 0);
        }
        y.meet(0, 1);
        Checks.due("a third embrace", y.person(0, 1), 24);
    }

    /** "and whose OWN is another one": who has it already keeps it, also by a SIDE or COUNT of another. */
    private static void alreadyOwn() {
        CheekTown x = two("kiss 2 left rank 0 bent 0", "kiss 2 right rank 0 bent 0");
        Checks.law(x, "kiss 2 left if who < 1;kiss 2 right");
        for (int i = 0; i < 3; i++) {
            x.meet(0, 1);
        }
        Checks.due("the SIDE alone is another", x.person(0, 1), 19);
        Checks.due("the SIDE alone is another", x.person(1, 1), 18);
        x.meet(0, 1);
        Checks.due("0 has it already", x.person(0, 1), 19);
        Checks.due("1 has it already", x.person(1, 1), 18);
    }

    /** "If one has a COLD, and neither DID a wave, both have a COLD." */
    private static void waves() {
        String[] words = {"wave", "hand", "kiss 1 left", "embrace"};
        for (int a = 0; a < 4; a++) {
            for (int b = 0; b < 4; b++) {
                for (int sick = 0; sick < 4; sick++) {
                    CheekTown x = two(words[a] + " rank 0 bent 0", words[b] + " rank 0 bent 0");
                    x.cold(0, (sick & 1) == 1);
                    x.cold(1, (sick & 2) == 2);
                    x.meet(1, 0);
                    Checks.due("colds by " + words[a] + " and " + words[b], x.count(11), a == 0 || b == 0 || sick == 0 ? sick : 3);
                }
            }
        }
    }

    /** "MINUTES: the greater COUNT of what both DID is spent": 1 for those without a count, 4 at most, whatever the KIND. */
    private static void minutes() {
        for (int a = 0; a < 32; a++) {
            CheekTown x = two("wave rank 0 bent 0", "wave rank 0 bent 0");
            x.own(0, a);
            x.meet(0, 1);
            Checks.due("minutes of " + a + " and a wave", x.count(10), a / 2 % 4 + 1);
            CheekTown y = two("wave rank 0 bent 0", "wave rank 0 bent 0");
            y.own(0, a);
            y.own(1, 31 - a);
            y.meet(0, 1);
            int greater = Math.max(a / 2 % 4, 3 - a / 2 % 4) + 1;
            Checks.due("minutes of " + a + " and " + (31 - a), y.count(10), greater);
        }
    }

    /** "They MET once more; each SAW what the other one DID": none at first, and of no third one. */
    private static void met() {
        CheekTown x = Checks.townOf("land;" + WAVES + ";person 0 hand rank 0 bent 0;" + WAVES);
        for (int n = 0; n < 3; n++) {
            for (int p = 0; p < 3; p++) {
                for (int q = 0; q < 3; q++) {
                    if (p != q) {
                        boolean both = p + q == 1 && n > 0;
                        Checks.due("how often " + p + " MET " + q, x.saw(p, q, true), both ? n : 0);
                    }
                }
                Checks.due("meetings of " + p, x.person(p, 6), p == 2 ? 0 : n);
            }
            Checks.due("what 0 SAW of 2", x.saw(0, 2, false), -1);
            Checks.due("what 2 SAW of 0", x.saw(2, 0, false), -1);
            Checks.due("what 0 SAW of 1", x.saw(0, 1, false), n == 0 ? -1 : n == 1 ? 8 : 0);
            Checks.due("what 1 SAW of 0", x.saw(1, 0, false), n == 0 ? -1 : n == 1 ? 0 : 8);
            x.meet(1, 0);
        }
    }

    /** "all TIES meet, by numbers; ROUND (0 at first) is 1 more behind that." */
    private static void round() {
        CheekTown x = Checks.townOf("land;" + WAVES + ";" + WAVES + ";" + WAVES + ";tie 2 1;tie 1 0;tie 0 2");
        Checks.due("at first", x.count(6), 0);
        x.rounds(1);
        Checks.due("1 more", x.count(6), 1);
        int[][] rows = {{0, 0, 2}, {0, 0, 1}, {0, 1, 2}};
        for (int ago = 0; ago < 3; ago++) {
            for (int what = 0; what < 3; what++) {
                Checks.due("log(" + ago + ", " + what + ")", x.log(ago, what), rows[ago][what]);
            }
        }
        x.meet(0, 1);
        Checks.due("a meeting alone", x.count(6), 1);
        Checks.due("is told with the ROUND by then", x.log(0, 0), 1);
        for (int n : new int[] {50, 50}) {
            x.rounds(n);
        }
        Checks.due("fifty twice", x.count(6), 101);
        Checks.due("the latest ROUND of the log", x.log(0, 0), 100);
        Checks.due("meetings", x.count(7), 3 * 101 + 1);
        CheekTown none = new CheekTown();
        Checks.due("without ties", none.rounds(50), 0);
        Checks.due("ROUND", none.count(6), 50);
        Checks.due("no meeting", none.count(7), 0);
    }

    /** "ROUNDS of one call are one"; "So many ROUNDS (1 to 50)". */
    private static void roundsOfOneCall() {
        CheekTown x = two("wave rank 0 bent 0", "hand rank 0 bent 0");
        Checks.law(x, "wave if who < 1;hand");
        x.ties(0, 1);
        Checks.due("one", x.rounds(1), 10);
        Checks.due("fifty", x.rounds(50), 500);
        Checks.due("acts", x.count(13), 3);
        for (int n : new int[] {0, 51, -1, -50, Integer.MIN_VALUE, Integer.MAX_VALUE}) {
            Checks.thrown("rounds(" + n + ")", Checks.ARGUMENT, () -> x.rounds(n));
        }
        Checks.due("acts", x.count(13), 3);
        x.undo();
        Checks.due("fifty are undone at once", x.count(6), 1);
        Checks.due("COST of all", x.count(8), 10);
        x.undo();
        Checks.due("none are left", x.count(6), 0);
    }

    /** "of the latest 60 MEETINGS": the 61st takes the place of the first one. */
    private static void logOfSixty() {
        CheekTown x = Checks.townOf("land;" + WAVES + ";" + WAVES + ";" + WAVES + ";tie 1 2");
        Checks.due("without", x.log(0, 0), -1);
        x.meet(0, 1);
        x.rounds(50);
        for (int i = 0; i < 8; i++) {
            x.meet(1, 2);
        }
        Checks.due("59 rows", x.count(12), 59);
        Checks.due("ago 58", x.log(58, 1), 0);
        Checks.due("ago 59", x.log(59, 1), -1);
        x.meet(1, 2);
        Checks.due("60 rows", x.count(12), 60);
        Checks.due("ago 59", x.log(59, 1), 0);
        Checks.due("ago 60", x.log(60, 1), -1);
        x.meet(0, 2);
        Checks.due("60 rows", x.count(12), 60);
        Checks.due("61 meetings", x.count(7), 61);
        Checks.due("ago 59", x.log(59, 1), 1);
        Checks.due("ago 59 is of ROUND 0", x.log(59, 0), 0);
        Checks.due("ago 58 is of ROUND 1", x.log(58, 0), 1);
        Checks.due("ago 0", x.log(0, 1), 0);
        for (int ago : new int[] {60, 61, 119, 120, -1, -60, Integer.MIN_VALUE, Integer.MAX_VALUE}) {
            for (int what = 0; what < 8; what++) {
                Checks.due("log(" + ago + ", " + what + ")", x.log(ago, what), -1);
            }
        }
        x.rounds(50);
        x.rounds(50);
        Checks.due("60 rows", x.count(12), 60);
        Checks.due("ago 59 is of ROUND 90", x.log(59, 0), 90);
    }

    /** What the 61st took the place of is back, once it is undone. */
    private static void logUndone() {
        CheekTown x = Checks.townOf("land;" + WAVES + ";" + WAVES + ";" + WAVES + ";tie 1 2");
        x.meet(0, 1);
        x.rounds(50);
        x.undo();
        x.rounds(50);
        for (int i = 0; i < 9; i++) {
            x.meet(1, 2);
        }
        x.meet(0, 2);
        Checks.due("ago 59", x.log(59, 1), 1);
        x.undo();
        Checks.due("the first one is back", x.log(59, 1), 0);
        Checks.due("the 60th is the latest", x.log(0, 1), 1);
        Checks.due("60 rows", x.count(12), 60);
        x.undo();
        Checks.due("59 rows", x.count(12), 59);
        Checks.due("the first one", x.log(58, 2), 1);
        Checks.due("none ahead of it", x.log(59, 2), -1);
    }

    /** "OWN is told: what it was", for each of the 32. */
    private static void own() {
        CheekTown x = Checks.townOf("land;" + WAVES);
        int was = 0;
        for (int g = 31; g >= 0; g--) {
            Checks.due("own(0, " + g + ")", x.own(0, g), was);
            Checks.due("OWN", x.person(0, 1), g);
            was = g;
        }
    }

    /** "a COLD or none (none at first)": one that comes twice is one. */
    private static void cold() {
        CheekTown x = manyAlike();
        Checks.due("none at first", x.count(11), 0);
        Checks.due("none goes", x.cold(9, false), false);
        Checks.due("the last one's comes", x.cold(9, true), false);
        Checks.due("comes again", x.cold(9, true), true);
        Checks.due("as bits", x.count(11), 512);
        Checks.due("of the person", x.person(9, 4), 1);
        Checks.due("goes", x.cold(9, false), true);
        Checks.due("goes again", x.cold(9, false), false);
        Checks.due("none is left", x.count(11), 0);
    }

    private static CheekTown manyAlike() {
        return TextEdgesTest.manyPeople(10);
    }

    /** "a TIE is cut (those behind it have a number less)": the first, the last, the only one. */
    private static void cut() {
        CheekTown x = manyAlike();
        TextEdgesTest.tieMany(x, 24);
        Checks.due("the last one", x.cut(23), 23);
        Checks.thrown("is no more", Checks.INDEX, () -> x.tie(23, false));
        Checks.due("the first one", x.cut(0), 22);
        Checks.due("the second one is the first", x.tie(0, true), 2);
        Checks.due("the 23rd one is the 22nd", x.tie(21, false), 2);
        Checks.due("the 23rd one is the 22nd", x.tie(21, true), 8);
        Checks.due("0 is tied to 2 and on", x.person(0, 5), 1023 - 3);
        Checks.due("1 is tied to 2 and on", x.person(1, 5), 1023 - 3);
        for (int left = 21; left >= 0; left--) {
            Checks.due("cut", x.cut(left / 2), left);
        }
        Checks.thrown("none is left", Checks.INDEX, () -> x.cut(0));
        for (int p = 0; p < 10; p++) {
            Checks.due("tied to nobody", x.person(p, 5), 0);
        }
        Checks.due("a new one is the first", x.ties(9, 0), 0);
    }

    /** "Sets are bits; of none they count for nothing"; "whose OWN was another one". */
    private static void feast() {
        CheekTown x = manyAlike();
        Checks.due("of nobody", x.feast(0, 8), 0);
        Checks.due("of none that there is", x.feast(~1023, 8), 0);
        Checks.due("of the last one, and of none", x.feast(512 + 1024, 8), 512);
        Checks.due("of all", x.feast(-1, 8), 511);
        Checks.due("all have it", x.feast(-1, 8), 0);
        Checks.due("of all, and nobody below 0", x.feast(Integer.MIN_VALUE, 31), 0);
        Checks.due("the greatest set", x.feast(Integer.MAX_VALUE, 31), 1023);
        CheekTown none = new CheekTown();
        Checks.due("nobody is there", none.feast(-1, 0), 0);
        Checks.due("an act all the same", none.count(13), 1);
        Checks.thrown("no greeting", Checks.INDEX, () -> none.feast(-1, 32));
    }

    /** "12 are remembered": all of them can be undone, one by one. */
    private static void twelveActs() {
        CheekTown x = Checks.townOf("land;" + WAVES);
        for (int n = 1; n <= 12; n++) {
            x.own(0, n);
            Checks.due("acts", x.count(13), n);
        }
        for (int n = 11; n >= 0; n--) {
            Checks.due("undo", x.undo(), true);
            Checks.due("OWN", x.person(0, 1), n);
            Checks.due("acts", x.count(13), n);
        }
        Checks.due("no more", x.undo(), false);
        Checks.due("OWN stays", x.person(0, 1), 0);
    }

    /** "an ACT that went as the thirteenth came is remembered no more", though the thirteenth is undone. */
    private static void thirteenth() {
        CheekTown x = Checks.townOf("land;" + WAVES);
        for (int n = 1; n <= 13; n++) {
            x.own(0, n);
        }
        Checks.due("12", x.count(13), 12);
        x.undo();
        Checks.due("11", x.count(13), 11);
        x.own(0, 20);
        Checks.due("12 again", x.count(13), 12);
        int[] due = {12, 11, 10, 9, 8, 7, 6, 5, 4, 3, 2, 1};
        for (int own : due) {
            Checks.due("undo", x.undo(), true);
            Checks.due("OWN", x.person(0, 1), own);
        }
        Checks.due("the first act is remembered no more", x.undo(), false);
        Checks.due("OWN", x.person(0, 1), 1);
    }

    /** "also one that changes nothing". */
    private static void actsThatChangeNothing() {
        CheekTown x = Checks.townOf("land;" + WAVES);
        x.own(0, 0);
        x.cold(0, false);
        x.feast(0, 5);
        x.feast(1, 0);
        x.feast(-2, 7);
        Checks.due("five acts", x.count(13), 5);
        x.own(0, 3);
        for (int n = 5; n >= 0; n--) {
            Checks.due("undo", x.undo(), true);
            Checks.due("OWN", x.person(0, 1), 0);
        }
        Checks.due("no more", x.undo(), false);
    }

    /** "A text, going back: none are remembered." SEED, THE IMAGE and refused calls forget none. */
    private static void textForgets() {
        CheekTown x = Checks.townOf("land;" + WAVES);
        x.own(0, 1);
        x.seed(9);
        x.image();
        Checks.wrongTown(x, "hug", 0);
        Checks.wrongLaw(x, "hug", 0);
        Checks.from(x, true);
        Checks.due("one act", x.count(13), 1);
        Checks.town(x, "");
        Checks.due("a text without a LINE", x.count(13), 0);
        Checks.due("nothing to undo", x.undo(), false);
        x.own(0, 2);
        Checks.law(x, " ");
        Checks.due("a law without a LINE", x.count(13), 0);
        x.own(0, 3);
        Checks.due("going back", x.back(), true);
        Checks.due("none are remembered", x.count(13), 0);
        Checks.due("nothing to undo", x.undo(), false);
        Checks.due("OWN", x.person(0, 1), 1);
    }

    /** "all is as ahead of it (but for the TAPE, fault(), THE IMAGE ..)". */
    private static void undoLeaves() {
        CheekTown x = Checks.townOf("land;" + WAVES);
        x.seed(5);
        x.own(0, 1);
        x.seed(6);
        Checks.wrongTown(x, "  hug", 2);
        x.image();
        Checks.feed(x, "air 7");
        x.undo();
        Checks.due("SEED as ahead of it", x.seed(5), 5);
        Checks.due("OWN as ahead of it", x.person(0, 1), 0);
        Checks.due("fault()", x.fault(), 2);
        Checks.due("the TAPE", x.end(5), true);
        Checks.due("not longer", x.end(6), false);
        Checks.due("THE IMAGE", x.back(), true);
        Checks.due("OWN of the image", x.person(0, 1), 1);
        Checks.due("SEED of the image", x.seed(1), 6);
        Checks.due("the TAPE stays", x.town(), 2);
        Checks.due("air", x.count(15), 7);
    }

    /** "THE IMAGE (one)"; "false, and nothing happens, if none was kept". */
    private static void image() {
        CheekTown x = Checks.townOf("land;" + WAVES);
        x.own(0, 1);
        Checks.due("none was kept", x.back(), false);
        Checks.due("nothing happened", x.count(13), 1);
        Checks.due("nothing happened", x.person(0, 1), 1);
        x.image();
        x.own(0, 2);
        x.image();
        x.own(0, 3);
        Checks.due("back", x.back(), true);
        Checks.due("to the latest one", x.person(0, 1), 2);
        x.own(0, 4);
        Checks.due("and again", x.back(), true);
        Checks.due("it stays kept", x.person(0, 1), 2);
    }

    /** THE IMAGE of a new object has nobody, no law and no text. */
    private static void imageOfNobody() {
        CheekTown x = new CheekTown();
        x.image();
        Checks.town(x, "land;" + WAVES + ";" + WAVES + ";tie 0 1;cold 1;air 9;habit 0 wave weight 1");
        Checks.law(x, "wave");
        x.rounds(7);
        x.seed(3);
        Checks.due("back", x.back(), true);
        int[] counts = {0, 0, 0, 0, 0, -1, 0, 0, 0, 0, 0, 0, 0, 0, 10, 2, 5};
        for (int what = 0; what < counts.length; what++) {
            Checks.due("count(" + what + ")", x.count(what), counts[what]);
        }
        Checks.due("SEED", x.seed(1), 1);
        Checks.due("no log", x.log(0, 0), -1);
        Checks.thrown("nobody", Checks.INDEX, () -> x.person(0, 0));
        Checks.town(x, "land;" + WAVES + ";" + WAVES);
        Checks.due("0 is tied to nobody", x.person(0, 5), 0);
        Checks.due("1 has no cold", x.person(1, 4), 0);
        Checks.due("0 met nobody", x.person(0, 6), 0);
        Checks.due("0 saw nothing", x.saw(0, 1, false), -1);
        x.own(1, 8);
        x.meet(0, 1);
        Checks.due("what 0 saw thrice ahead of that is no more", x.person(0, 1), 0);
    }

    /** "NONE for another what." */
    private static void count() {
        CheekTown x = new CheekTown();
        for (int what : new int[] {-1, 17, 18, Integer.MIN_VALUE, Integer.MAX_VALUE}) {
            Checks.due("count(" + what + ")", x.count(what), -1);
        }
        Checks.due("count(0)", x.count(0), 0);
        Checks.due("count(16)", x.count(16), 5);
    }
}
