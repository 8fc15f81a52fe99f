/** The edges that 'Terms' names in its first part and promises 1 to 6 and 12: a method for each sentence. */
public final class TextEdgesTest {
    private static final String WAVES = "person 0 wave rank 0 bent 0";

    public static void main(String[] args) {
        tape();
        longestText();
        highestFirst();
        end();
        prices();
        lands();
        habits();
        people();
        ties();
        tieTwice();
        byThen();
        townTexts();
        townLines();
        greetings();
        numbers();
        lawLines();
        lawNumbers();
        words();
        blanks();
        noLine();
        deep();
        notDeep();
        brackets();
        longConditions();
        begins();
        fault();
        nothingStays();
        Checks.finish();
    }

    static CheekTown manyPeople(int n) {
        CheekTown x = Checks.townOf("land");
        for (int told = 0; told < n; told += 5) {
            Checks.town(x, WAVES + (";" + WAVES).repeat(Math.min(5, n - told) - 1));
        }
        return x;
    }

    /** Ties 0 with 1 to 9, then 1 with 2 to 9, and so on. */
    static void tieMany(CheekTown x, int n) {
        int tied = 0;
        for (int p = 0; p < 10; p++) {
            for (int q = p + 1; q < 10 && tied < n; q++) {
                Checks.due("ties(" + p + ", " + q + ")", x.ties(p, q), tied);
                tied++;
            }
        }
    }

    private static void feedBlanks(CheekTown x, int bytes) {
        for (int fed = 0; fed < bytes; fed += 20) {
            x.feed(0x20202020, 0x20202020, 0x20202020, 0x20202020, 0x20202020);
        }
        x.end(bytes);
    }

    private static int feedLand(CheekTown x) {
        return x.feed(0x6c616e64, 0x20202020, 0x20202020, 0x20202020, 0x20202020);
    }

    /** "NONE, and none come, if it would have more than 400." */
    private static void tape() {
        for (int bytes : new int[] {381, 390, 399, 400}) {
            CheekTown x = new CheekTown();
            feedBlanks(x, bytes);
            Checks.due("feed behind " + bytes, feedLand(x), -1);
            Checks.due("still " + bytes, x.end(bytes + 1), false);
            Checks.due("blanks alone", x.town(), 1);
            Checks.due("none came", x.count(0), 0);
            Checks.due("used up, there is room again", feedLand(x), 20);
        }
        CheekTown y = new CheekTown();
        feedBlanks(y, 380);
        Checks.due("feed behind 380", feedLand(y), 400);
        Checks.due("all came", y.town(), 1);
        Checks.due("a land", y.count(0), 1);
    }

    /** All 400 bytes are a text; its length is 400, if more must come. */
    private static void longestText() {
        CheekTown x = new CheekTown();
        Checks.rightTown(x, " ".repeat(396) + "land");
        Checks.due("a land", x.count(0), 1);
        Checks.wrongTownBehind(x, " ".repeat(397) + "air", "");
        Checks.wrongTownBehind(x, "air" + " ".repeat(397), "");
        Checks.wrongTownBehind(x, " ".repeat(399), "l");
        Checks.wrongLawBehind(x, " ".repeat(392) + "wave if ", "");
        Checks.wrongLawBehind(x, "wave if 1 < " + "1+".repeat(194), "");
        Checks.rightLaw(x, "wave if 11 < " + "1+".repeat(193) + "1", 1);
        Checks.rightLaw(x, " ".repeat(400), 0);
    }

    /** "Twenty bytes come .., of each number the highest first": also of numbers below 0. */
    private static void highestFirst() {
        CheekTown x = new CheekTown();
        x.feed(-1, 0, 0, 0, 0);
        Checks.thrown("bytes 255", Checks.ARGUMENT, x::town);
        Checks.due("the first byte", x.fault(), 0);
        x.feed(0x20202080, 0, 0, 0, 0);
        Checks.thrown("three blanks and a byte 128", Checks.ARGUMENT, x::town);
        Checks.due("the fourth byte", x.fault(), 3);
        x.feed(0x20202020, 0x20202020, 0x20202020, 0x20202020, 0x202020A0);
        Checks.thrown("19 blanks and a byte 160", Checks.ARGUMENT, x::law);
        Checks.due("the twentieth byte", x.fault(), 19);
        x.feed(0x20202020, 0xFE202020, 0, 0, 0);
        Checks.thrown("four blanks and a byte 254", Checks.ARGUMENT, x::law);
        Checks.due("the fifth byte", x.fault(), 4);
    }

    /** "false, and nothing happens, if it has fewer, or n is below 0." */
    private static void end() {
        CheekTown x = new CheekTown();
        for (int n : new int[] {1, 20, 400, 401, Integer.MAX_VALUE, -1, Integer.MIN_VALUE}) {
            Checks.due("end(" + n + ") of none", x.end(n), false);
        }
        Checks.due("end(0) of none", x.end(0), true);
        Checks.feed(x, "land");
        for (int n : new int[] {5, 20, 400, Integer.MAX_VALUE, -1, Integer.MIN_VALUE}) {
            Checks.due("end(" + n + ") of 4", x.end(n), false);
        }
        Checks.due("end(4) of 4", x.end(4), true);
        Checks.due("nothing happened", x.town(), 1);
        Checks.due("a land", x.count(0), 1);
        Checks.feed(x, "land;land");
        Checks.due("end(4) of 9", x.end(4), true);
        Checks.due("the others are gone", x.end(5), false);
        x.town();
        Checks.due("one more land", x.count(0), 2);
    }

    /** "STOMACH, AIR, NOSES: 0 to 99 each (10, 2, 5 at first)." */
    private static void prices() {
        CheekTown x = new CheekTown();
        String[] words = {"stomach ", "air ", "noses "};
        int[] atFirst = {10, 2, 5};
        for (int i = 0; i < 3; i++) {
            Checks.due(words[i] + "at first", x.count(14 + i), atFirst[i]);
            Checks.wrongTownBehind(x, words[i], "100");
            Checks.wrongTownBehind(x, words[i], "-1");
            Checks.due(words[i] + "is as at first", x.count(14 + i), atFirst[i]);
            Checks.rightTown(x, words[i] + "99");
            Checks.due(words[i], x.count(14 + i), 99);
            Checks.rightTown(x, words[i] + "0");
            Checks.due(words[i], x.count(14 + i), 0);
        }
    }

    /** "LANDS (at most 6 ..)": in all texts together, and the first word is wrong. */
    private static void lands() {
        CheekTown x = new CheekTown();
        Checks.wrongTownBehind(x, "land;land;land;land;land;land;", "land");
        Checks.rightTown(x, "land;land;land;land;land;land");
        Checks.due("six", x.count(0), 6);
        Checks.wrongTownBehind(x, "  ", "land");
        Checks.rightTown(x, "habit 5 wave weight 1");
        Checks.wrongTownBehind(x, "habit ", "6 wave weight 1");
        CheekTown y = Checks.townOf("land;land;land");
        Checks.wrongTownBehind(y, "land;land;land; ", "land 7");
        Checks.rightTown(y, "land;land;land");
    }

    /** "HABITS (at most 24 in all)": of whatever LAND, and the first word is wrong. */
    private static void habits() {
        CheekTown x = Checks.townOf("land;land;land");
        Checks.rightTown(x, "habit 0 wave weight 1" + ";habit 0 wave weight 9".repeat(13));
        Checks.rightTown(x, "habit 1 hand weight 1" + ";habit 1 hand weight 9".repeat(8));
        Checks.due("23", x.count(1), 23);
        Checks.wrongTownBehind(x, "habit 2 wave weight 1;", "habit 2 wave weight 1");
        Checks.rightTown(x, "habit 2 wave weight 1");
        Checks.due("24", x.count(1), 24);
        Checks.wrongTownBehind(x, "", "habit 2 wave weight 1");
        Checks.wrongTownBehind(x, "", "habit");
        Checks.due("all of 0", x.habit(0, 0), 1 + 9 * 13);
        Checks.due("all of 1", x.habit(1, 8), 1 + 9 * 8);
        Checks.due("all of 2", x.habit(2, 0), 1);
    }

    /** "PEOPLE (at most 10 ..)": the first word is wrong. */
    private static void people() {
        CheekTown x = manyPeople(9);
        Checks.wrongTownBehind(x, WAVES + ";", WAVES);
        Checks.rightTown(x, "person 0 kiss 4 right rank 9 bent 100;cold 9;tie 9 0");
        Checks.due("ten", x.count(2), 10);
        Checks.due("the tenth", x.person(9, 3), 100);
        Checks.wrongTownBehind(x, "", WAVES);
        Checks.wrongTownBehind(x, "land;", "person");
        Checks.wrongTownBehind(x, "cold ", "10");
    }

    /** "TIES (at most 24 ..)": by texts and by calls, and the first word is wrong. */
    private static void ties() {
        CheekTown x = manyPeople(10);
        tieMany(x, 22);
        Checks.wrongTownBehind(x, "tie 9 8;tie 9 7;", "tie 9 6");
        Checks.wrongTownBehind(x, "tie 9 8;tie 9 7;", "tie 0 1");
        Checks.rightTown(x, "tie 9 8;tie 9 7");
        Checks.due("24", x.count(3), 24);
        Checks.wrongTownBehind(x, "", "tie 9 6");
        Checks.wrongTownBehind(x, "", "tie");
        x.cut(0);
        Checks.wrongTownBehind(x, "tie 1 0;", "tie 9 6");
        Checks.rightTown(x, "tie 9 6");
        Checks.due("the latest", x.tie(23, true), 6);
    }

    /** "the two of tie not the same, nor tied already, either way: else the latter is wrong". */
    private static void tieTwice() {
        CheekTown x = manyPeople(3);
        Checks.wrongTownBehind(x, "tie 0 ", "0");
        Checks.wrongTownBehind(x, "tie 2   ", "002 ");
        Checks.wrongTownBehind(x, "tie 0 1;tie 0 ", "1;hug");
        Checks.wrongTownBehind(x, "tie 0 1;tie 1 ", "0");
        Checks.wrongTownBehind(x, "tie ", "3 3");
        x.ties(2, 1);
        Checks.wrongTownBehind(x, "tie 2 ", "1");
        Checks.wrongTownBehind(x, "tie 1 ", "2");
        Checks.rightTown(x, "tie 2 0");
        Checks.wrongTownBehind(x, "tie 0 ", "2");
        x.cut(0);
        Checks.rightTown(x, "tie 1 2");
    }

    /** "L: a LAND, P: a PERSON that there is by then". */
    private static void byThen() {
        CheekTown x = new CheekTown();
        Checks.wrongTownBehind(x, "habit ", "0 wave weight 1;land");
        Checks.wrongTownBehind(x, "person ", "0 wave rank 0 bent 0;land");
        Checks.wrongTownBehind(x, "land;habit ", "1 wave weight 1;land");
        Checks.rightTown(x, "land;habit 0 wave weight 1;land;habit 1 wave weight 1");
        Checks.wrongTownBehind(x, "cold ", "0;" + WAVES);
        Checks.wrongTownBehind(x, WAVES + ";cold ", "1;" + WAVES);
        Checks.wrongTownBehind(x, WAVES + ";tie 0 ", "1;" + WAVES);
        Checks.wrongTownBehind(x, WAVES + ";tie ", "1 0;" + WAVES);
        Checks.rightTown(x, WAVES + ";cold 0;" + WAVES + ";tie 1 0;cold 1");
        Checks.wrongTownBehind(x, "person ", "2 wave rank 0 bent 0");
        Checks.wrongTownBehind(x, "cold ", "2");
    }

    /** "texts (at most 12, one behind another)": a refused one counts for nothing, going back gives room again. */
    private static void townTexts() {
        CheekTown x = new CheekTown();
        for (int n = 1; n <= 11; n++) {
            Checks.due("text " + n, Checks.town(x, n == 5 ? "land" : ""), n);
            Checks.wrongTown(x, "hug", 0);
            Checks.due("texts", x.count(4), n);
        }
        x.image();
        Checks.due("a 12th", Checks.town(x, "air 9"), 12);
        Checks.feed(x, "air 8");
        Checks.thrown("a 13th", Checks.UNSUPPORTED, x::town);
        Checks.due("air", x.count(15), 9);
        x.back();
        Checks.due("eleven again", x.count(4), 11);
        Checks.due("a 12th again", Checks.town(x, "air 8"), 12);
        Checks.due("air", x.count(15), 8);
    }

    /** "at most 14 .. of a LINE too many .. the first word". */
    private static void townLines() {
        CheekTown x = new CheekTown();
        String fourteen = "air 1" + ";air 2".repeat(13);
        Checks.rightTown(x, fourteen);
        Checks.due("the latest line", x.count(15), 2);
        Checks.wrongTownBehind(x, fourteen + "; ", "air 3");
        Checks.wrongTownBehind(x, fourteen + ";", "land");
        Checks.wrongTownBehind(x, fourteen + ";", "hug");
        Checks.wrongTownBehind(x, fourteen + ";", ";");
        Checks.wrongTownBehind(x, fourteen + " ; ", "");
        Checks.wrongTownBehind(x, fourteen + " ", "air 3");
        Checks.wrongTownBehind(x, "air 1" + ";air 2".repeat(12) + ";air ", "100;air 1");
        Checks.rightTown(x, "land" + ";air 2".repeat(13));
    }

    /** "kiss N S .. N 1 to 4, S left or right (else COUNT is 1, SIDE left)". */
    private static void greetings() {
        CheekTown x = Checks.townOf("land;" + WAVES);
        String[] words = {"wave", "hand", "embrace"};
        int[] codes = {0, 8, 24};
        for (int i = 0; i < 3; i++) {
            Checks.rightLaw(x, words[i], 1);
            Checks.rightTown(x, "habit 0 " + words[i] + " weight " + (i + 1));
            Checks.due(words[i], x.habit(0, codes[i]), i + 1);
            Checks.wrongLawBehind(x, words[i] + " ", "1 left");
            Checks.wrongLawBehind(x, words[i] + " ", "left");
        }
        for (int n = 1; n <= 4; n++) {
            Checks.rightTown(x, "habit 0 kiss " + n + " left weight 4;habit 0 kiss " + n + " right weight 5");
            Checks.due("left", x.habit(0, 16 + 2 * (n - 1)), 4);
            Checks.due("right", x.habit(0, 17 + 2 * (n - 1)), 5);
        }
        Checks.wrongLawBehind(x, "kiss ", "0 left");
        Checks.wrongLawBehind(x, "kiss ", "5 right");
        Checks.wrongLawBehind(x, "kiss ", "left");
        Checks.wrongLawBehind(x, "kiss 1 ", "up");
        Checks.wrongLawBehind(x, "kiss 1 ", "2 left");
        Checks.wrongLawBehind(x, "kiss 1 left ", "right");
        Checks.wrongLawBehind(x, "kiss 1", "");
    }

    /** "WEIGHT 1 to 9", "RANK 0 to 9; BENT 0 to 100", "Numbers are of 1 to 3 digits". */
    private static void numbers() {
        CheekTown x = Checks.townOf("land");
        String[] right = {"habit 0 wave weight 1", "habit 0 wave weight 9", "habit 000 wave weight 009", WAVES, "person 0 wave rank 9 bent 100",
            "person 00 kiss 004 left rank 009 bent 000", "cold 000", "tie 000 001"};
        for (String text : right) {
            Checks.rightTown(x, text);
        }
        String[][] wrong = {{"habit 0 wave weight ", "0"}, {"habit 0 wave weight ", "10"}, {"habit 0 wave weight ", "0001"},
            {"habit ", "0000 wave weight 1"}, {"person 0 wave rank ", "10 bent 0"}, {"person 0 wave rank ", "0009 bent 0"},
            {"person 0 wave rank 9 bent ", "101"}, {"person 0 wave rank 9 bent ", "0100"}, {"person 0 wave rank 9 bent ", "999"},
            {"person 0 kiss ", "0001 left rank 9 bent 0"}, {"cold ", "0000"}, {"tie 0 ", "0002"}, {"tie ", "0000 2"},
            {"air ", "0000"}, {"air ", "4294967296"}, {"air ", "99999999999999999999"}};
        for (String[] text : wrong) {
            Checks.wrongTownBehind(x, text[0], text[1]);
        }
        Checks.wrongTownBehind(x, "tie 02", "");
        Checks.wrongTownBehind(x, "air 1 ", "2");
    }

    /** THE LAW: "LINE { ; LINE }, at most 12": of a LINE too many the first word; a refused law leaves the one before. */
    private static void lawLines() {
        CheekTown x = new CheekTown();
        Checks.due("NONE without one", x.count(5), -1);
        String twelve = "wave" + ";hand".repeat(11);
        Checks.rightLaw(x, twelve, 12);
        Checks.wrongLawBehind(x, twelve + "; ", "hand");
        Checks.wrongLawBehind(x, twelve + ";", "hug");
        Checks.wrongLawBehind(x, twelve + ";", "");
        Checks.wrongLawBehind(x, twelve + " ", "hand");
        Checks.due("twelve", x.count(5), 12);
        Checks.rightLaw(x, "wave if same" + ";wave if same".repeat(11), 12);
        Checks.wrongLawBehind(x, "wave if same" + ";wave if same".repeat(11) + ";", "wave if same");
        Checks.rightLaw(x, "", 0);
        Checks.due("a law without a LINE", x.count(5), 0);
        Checks.wrongLaw(x, "hug", 0);
        Checks.due("is left too", x.count(5), 0);
    }

    private static boolean holds(CheekTown x, String condition) {
        Checks.rightLaw(x, "embrace if " + condition, 1);
        return x.will(0, 1) == 24;
    }

    /** "All numbers are of 1 to 3 digits": 0 to 999; what is as great is neither less nor more. */
    private static void lawNumbers() {
        CheekTown x = manyPeople(2);
        Checks.due("0 < 999", holds(x, "0 < 999"), true);
        Checks.due("000 < 001", holds(x, "000 < 001"), true);
        Checks.due("998 < 999", holds(x, "998 < 999"), true);
        Checks.due("999 < 999", holds(x, "999 < 999"), false);
        Checks.due("999 > 999", holds(x, "999 > 999"), false);
        Checks.due("999 > 998", holds(x, "999 > 998"), true);
        Checks.wrongLawBehind(x, "wave if ", "1000 > 1");
        Checks.wrongLawBehind(x, "wave if ", "0000 > 1");
        Checks.wrongLawBehind(x, "wave if 1 > ", "1000");
        Checks.wrongLawBehind(x, "wave if 1 + ", "0001 > 1");
        Checks.wrongLawBehind(x, "kiss ", "0001 left");
        Checks.wrongLawBehind(x, "wave if ", "- 1 < 1");
    }

    /** "Words are as long as a to z go on". */
    private static void words() {
        CheekTown x = new CheekTown();
        Checks.wrongTownBehind(x, "", "lands");
        Checks.wrongTownBehind(x, "", "lan");
        Checks.wrongTownBehind(x, "", "landair 1");
        Checks.wrongTownBehind(x, "land", "A");
        Checks.wrongTownBehind(x, "land", "9");
        Checks.wrongTownBehind(x, "land", "_");
        Checks.wrongTownBehind(x, "land", "`");
        Checks.wrongTownBehind(x, "land", "{");
        Checks.wrongTownBehind(x, "land", "\u00e9");
        Checks.rightTown(x, "air9;land;person0kiss2left rank1bent1");
        Checks.due("a kiss", x.person(0, 1), 18);
        Checks.wrongLawBehind(x, "", "waveif same");
        Checks.wrongLawBehind(x, "wave ", "ifsame");
        Checks.wrongLawBehind(x, "wave if ", "notsame");
        Checks.wrongLawBehind(x, "wave if same ", "andsame");
        Checks.wrongLawBehind(x, "wave if ", "whowhom < 1");
        Checks.rightLaw(x, "wave if(same)and not(cold)or 1<2", 1);
        Checks.rightLaw(x, "kiss1left if who<1and whom>1or met+1<2", 1);
    }

    /** "between all there may be blanks (32), also ahead and behind": as many as go, and none but these. */
    private static void blanks() {
        CheekTown x = new CheekTown();
        Checks.rightTown(x, "   land   ;   person   0   kiss   2   right   rank   3   bent   4   ");
        Checks.due("a kiss", x.person(0, 1), 19);
        Checks.rightLaw(x, "  wave  if  (  not  who  +  1  <  2  and  same  )  or  cold  ;  hand  ", 2);
        for (char c : new char[] {'\0', '\t', '\n', '\r', '\u001f', '!', '\u00a0'}) {
            Checks.wrongTownBehind(x, "", c + "land");
            Checks.wrongTownBehind(x, "air", c + "1");
            Checks.wrongTownBehind(x, "air 1", String.valueOf(c));
            Checks.wrongLawBehind(x, "wave", c + "if same");
        }
        Checks.wrongTownBehind(x, "air 1 ", "0");
        Checks.wrongTownBehind(x, "", "l and");
        Checks.wrongLawBehind(x, "wave if 1 ", "2 < 3");
    }

    /** "A text that is empty, or blanks alone, has no LINE." */
    private static void noLine() {
        CheekTown x = new CheekTown();
        int texts = 0;
        for (int blanks : new int[] {0, 1, 20, 399, 400}) {
            texts++;
            Checks.due("a text of " + blanks, Checks.town(x, " ".repeat(blanks)), texts);
            Checks.due("its fault", x.fault(), -1);
            Checks.rightLaw(x, " ".repeat(blanks), 0);
        }
        Checks.wrongTown(x, ";", 0);
        Checks.wrongTown(x, "  ;", 2);
        Checks.wrongTown(x, "air 1;", 6);
        Checks.wrongLaw(x, ";", 0);
        Checks.wrongLaw(x, "wave;  ", 7);
    }

    /** "( and not within one another at most 6 deep .. the ( or not that is a 7th one deep". */
    private static void deep() {
        CheekTown x = manyPeople(2);
        for (int set = 0; set < 128; set++) {
            StringBuilder open = new StringBuilder("embrace if ");
            String close = "";
            boolean holds = true;
            for (int i = 0; i < 6; i++) {
                boolean isNot = (set >> i & 1) == 1;
                open.append(isNot ? "not " : "( ");
                close = close + (isNot ? "" : ")");
                holds ^= isNot;
            }
            Checks.rightLaw(x, open + "same" + close, 1);
            Checks.due(open + "same", x.will(0, 1), holds ? 24 : 0);
            Checks.wrongLawBehind(x, open.toString(), (set >> 6 & 1) == 1 ? "not same" + close : "(same)" + close);
            x = set % 16 == 15 ? manyPeople(2) : x;
        }
    }

    /** Brackets and nots that stand behind one another are not within one another. */
    private static void notDeep() {
        CheekTown x = manyPeople(2);
        Checks.due("eight brackets", holds(x, "(same)" + " and (same)".repeat(7)), true);
        Checks.due("eight nots", holds(x, "not cold" + " and not cold".repeat(7)), true);
        Checks.due("eight nots", holds(x, "not same" + " or not same".repeat(7)), false);
        String six = "((((((same))))))";
        Checks.due("six, and six again", holds(x, six + " and not not not not not not same and " + six), true);
        Checks.due("six in three, twice", holds(x, "((( ((( same ))) and not not not cold )))"), true);
        Checks.wrongLawBehind(x, "wave if " + six + " and ((((((", "(same)))))))");
        Checks.wrongLawBehind(x, "wave if (((((( same ) and (same) and (", "(same)))))))");
        Checks.wrongLawBehind(x, "wave if (((((( same and ", "not same))))))");
    }

    /** "the begin of the first thing that cannot stand there": brackets that fit no other. */
    private static void brackets() {
        CheekTown x = new CheekTown();
        Checks.wrongLawBehind(x, "wave if (", ")");
        Checks.wrongLawBehind(x, "wave if (same", "");
        Checks.wrongLawBehind(x, "wave if (same ", ";wave");
        Checks.wrongLawBehind(x, "wave if (same)", ")");
        Checks.wrongLawBehind(x, "wave if ", ") same");
        Checks.wrongLawBehind(x, "wave if (1", ") < 2");
        Checks.wrongLawBehind(x, "wave if 1 < ", "(2)");
        Checks.wrongLawBehind(x, "wave if same ", "(same)");
        Checks.wrongLawBehind(x, "wave if not ", ")");
    }

    /** Sums, ALL and C as long as a text can have them. */
    private static void longConditions() {
        CheekTown x = manyPeople(2);
        Checks.due("190 ones", holds(x, "1" + "+1".repeat(189) + ">189"), true);
        Checks.due("190 ones", holds(x, "1" + "+1".repeat(189) + ">190"), false);
        Checks.due("95 of 999", holds(x, "999" + "+999".repeat(94) + ">999"), true);
        Checks.due("the last of many ors", holds(x, "cold" + " or cold".repeat(46) + " or same"), true);
        Checks.due("the last of many ands", holds(x, "same" + " and same".repeat(40) + " and cold"), false);
        Checks.due("many ands", holds(x, "same" + " and same".repeat(41)), true);
        Checks.due("many ors", holds(x, "cold" + " or cold".repeat(47)), false);
    }

    /** "BEGINS: the first LINE that holds ..; without any: what one SAW of the other one last; else OWN." */
    private static void begins() {
        CheekTown x = Checks.townOf("land;" + WAVES + ";person 0 hand rank 0 bent 0");
        Checks.due("without a law", x.will(0, 1), 0);
        Checks.rightLaw(x, "", 0);
        Checks.due("a law without a LINE", x.will(1, 0), 8);
        Checks.rightLaw(x, "embrace if cold;kiss 1 left if met > 0;kiss 2 left if met > 1", 3);
        Checks.due("no LINE holds, nothing was seen", x.will(0, 1), 0);
        x.meet(0, 1);
        Checks.due("the first LINE that holds", x.will(0, 1), 16);
        Checks.rightLaw(x, "embrace if cold", 1);
        Checks.due("no LINE holds, a hand was seen", x.will(0, 1), 8);
        x.cold(1, true);
        Checks.due("a LINE holds", x.will(0, 1), 24);
    }

    /** "NONE without one, and ahead of any." Other calls leave it. */
    private static void fault() {
        CheekTown x = new CheekTown();
        Checks.due("ahead of any", x.fault(), -1);
        Checks.feed(x, "hug");
        Checks.due("a tape alone is no text", x.fault(), -1);
        Checks.thrown("hug", Checks.ARGUMENT, x::town);
        Checks.due("the first byte", x.fault(), 0);
        x.image();
        Checks.rightLaw(x, "wave", 1);
        Checks.wrongLaw(x, "wave wave", 5);
        x.back();
        Checks.due("going back leaves it", x.fault(), 5);
        x.rounds(1);
        x.undo();
        Checks.due("acts leave it", x.fault(), 5);
        Checks.rightTown(x, "");
        Checks.wrongTown(x, "land;", 5);
        Checks.rightLaw(x, "", 0);
    }

    /** "Of a wrong text nothing stays": of whatever was told ahead of the wrong byte. */
    private static void nothingStays() {
        CheekTown x = manyPeople(2);
        String all = "land;habit 1 wave weight 3;person 1 hand rank 4 bent 5;cold 0;tie 0 2;stomach 1;air 3;noses 4;";
        Checks.wrongTownBehind(x, all, "hug");
        int[] counts = {1, 0, 2, 0, 2, -1, 0, 0, 0, 0, 0, 0, 0, 0, 10, 2, 5};
        for (int what = 0; what < counts.length; what++) {
            Checks.due("count(" + what + ")", x.count(what), counts[what]);
        }
        Checks.due("tied to nobody", x.person(0, 5), 0);
        Checks.thrown("no third one", Checks.INDEX, () -> x.person(2, 0));
        Checks.wrongTownBehind(x, "cold ", "2");
        Checks.rightTown(x, all + "land");
        Checks.due("now it stays", x.count(0), 3);
        Checks.due("now it stays", x.person(0, 5), 4);
    }
}
