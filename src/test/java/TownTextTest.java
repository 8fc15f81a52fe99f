/** Promises 4 and 6: texts of the town, and where they are wrong. */
public final class TownTextTest {
    private static final String TWO = "land;person 0 wave rank 0 bent 0;person 0 hand rank 9 bent 100";

    public static void main(String[] args) {
        rightTexts();
        bounds();
        blanks();
        wrongWords();
        cutShort();
        wrongNumbers();
        tooMany();
        ties();
        nothingStays();
        twelveTexts();
        Checks.finish();
    }

    private static void rightTexts() {
        CheekTown x = new CheekTown();
        Checks.due("an empty text", Checks.town(x, ""), 1);
        Checks.due("a text of blanks", Checks.town(x, "   "), 2);
        Checks.due("its fault", x.fault(), -1);
        Checks.due("one land", Checks.town(x, "land"), 3);
        Checks.due("the rest", Checks.town(x, "land;habit 1 kiss 4 right weight 9;person 1 embrace rank 7 bent 33;person 0 kiss 3 left rank 0 bent 0;"
            + "cold 1;tie 1 0;stomach 99;air 0;noses 42"), 4);
        int[] counts = {2, 1, 2, 1, 4, -1, 0, 0, 0, 0, 0, 2, 0, 0, 99, 0, 42};
        for (int what = 0; what < counts.length; what++) {
            Checks.due("told: count(" + what + ")", x.count(what), counts[what]);
        }
        Checks.due("habit", x.habit(1, 23), 9);
        int[][] people = {{1, 24, 7, 33, 0, 2, 0}, {0, 20, 0, 0, 1, 1, 0}};
        for (int p = 0; p < 2; p++) {
            for (int what = 0; what < 7; what++) {
                Checks.due("person(" + p + ", " + what + ")", x.person(p, what), people[p][what]);
            }
        }
        Checks.due("tie as it was told", x.tie(0, false), 1);
        Checks.due("tie as it was told", x.tie(0, true), 0);
        Checks.due("prices are told anew", Checks.town(x, "stomach 1;stomach 2"), 5);
        Checks.due("the latter one stays", x.count(14), 2);
    }

    private static void bounds() {
        CheekTown x = new CheekTown();
        Checks.rightTown(x, "land;habit 0 kiss 1 left weight 1;person 0 kiss 4 right rank 9 bent 100");
        Checks.wrongTown(x, "habit 0 kiss 0 left weight 1", 13);
        Checks.wrongTown(x, "habit 0 kiss 5 left weight 1", 13);
        Checks.wrongTown(x, "habit 0 wave weight 0", 20);
        Checks.wrongTown(x, "habit 0 wave weight 10", 20);
        Checks.wrongTown(x, "habit 1 wave weight 1", 6);
        Checks.wrongTown(x, "person 0 wave rank 10 bent 0", 19);
        Checks.wrongTown(x, "person 0 wave rank 9 bent 101", 26);
        Checks.wrongTown(x, "person 1 wave rank 9 bent 101", 7);
        Checks.wrongTown(x, "cold 1", 5);
        Checks.rightTown(x, "cold 0");
        for (String price : new String[] {"stomach", "air", "noses"}) {
            Checks.rightTown(x, price + " 0");
            Checks.rightTown(x, price + " 99");
            Checks.wrongTown(x, price + " 100", price.length() + 1);
        }
        Checks.rightTown(x, "stomach 007");
        Checks.due("digits ahead count for nothing", x.count(14), 7);
        Checks.wrongTown(x, "stomach 0007", 8);
        Checks.wrongTown(x, "stomach 99999999999999999999999", 8);
        Checks.wrongTown(x, "stomach 4294967297", 8);
        Checks.wrongTown(x, "stomach -1", 8);
    }

    private static void blanks() {
        CheekTown x = new CheekTown();
        Checks.rightTown(x, "  land ;  land;person0kiss2left rank 3bent 4 ");
        Checks.due("two lands", x.count(0), 2);
        Checks.due("a kiss without blanks", x.person(0, 1), 18);
        Checks.wrongTown(x, "la nd", 0);
        Checks.wrongTown(x, "person 0 wave rank 1 2 bent 3", 21);
        Checks.wrongTown(x, "landland", 0);
        Checks.wrongTown(x, "land\tland", 4);
        Checks.wrongTown(x, "landz", 0);
        Checks.wrongTown(x, "aland", 0);
        Checks.wrongTown(x, "land{", 4);
        Checks.wrongTown(x, "land`", 4);
        Checks.wrongTown(x, "air 9:", 5);
        Checks.wrongTown(x, "air 9/", 5);
        Checks.wrongTown(x, "air 9\u00e1", 5);
        Checks.wrongTown(x, "Land", 0);
        Checks.wrongTown(x, "lanD", 0);
        Checks.wrongTown(x, "landX", 4);
        Checks.wrongTown(x, "land\0", 4);
        Checks.wrongTown(x, "  land  1", 8);
        Checks.wrongTown(x, "person 0 wave rankbent 1", 14);
        Checks.wrongTown(x, "person 0 waverank 1 bent 1", 9);
    }

    private static void wrongWords() {
        CheekTown x = Checks.townOf(TWO);
        Checks.wrongTown(x, "hug", 0);
        Checks.wrongTown(x, "7", 0);
        Checks.wrongTown(x, ";", 0);
        Checks.wrongTown(x, " ;land", 1);
        Checks.wrongTown(x, "land;", 5);
        Checks.wrongTown(x, "land ;  ", 8);
        Checks.wrongTown(x, "land;;land", 5);
        Checks.wrongTown(x, "land land", 5);
        Checks.wrongTown(x, "land,land", 4);
        Checks.wrongTown(x, "habit", 5);
        Checks.wrongTown(x, "habit wave", 6);
        Checks.wrongTown(x, "habit 0", 7);
        Checks.wrongTown(x, "habit 0  ", 9);
        Checks.wrongTown(x, "habit 0 hug", 8);
        Checks.wrongTown(x, "habit 0 wave", 12);
        Checks.wrongTown(x, "habit 0 wave 3", 13);
        Checks.wrongTown(x, "habit 0 wave 2 left weight 3", 13);
        Checks.wrongTown(x, "habit 0 wave weight", 19);
        Checks.wrongTown(x, "habit 0 wave weight x", 20);
        Checks.wrongTown(x, "habit 0 kiss left weight 1", 13);
        Checks.wrongTown(x, "habit 0 kiss 1 weight 1", 15);
        Checks.wrongTown(x, "habit 0 kiss 1", 14);
        Checks.wrongTown(x, "habit 0 wave weight 1 2", 22);
        Checks.wrongTown(x, "person 0 wave bent 0 rank 0", 14);
        Checks.wrongTown(x, "person 0 wave rank 0", 20);
        Checks.wrongTown(x, "person 0 wave rank 0 bent", 25);
        Checks.wrongTown(x, "person 0 0 rank 0 bent 0", 9);
        Checks.wrongTown(x, "cold", 4);
        Checks.wrongTown(x, "cold 0 1", 7);
        Checks.wrongTown(x, "tie 0", 5);
        Checks.wrongTown(x, "tie 0 1 0", 8);
        Checks.wrongTown(x, "air", 3);
        Checks.wrongTown(x, "air wave", 4);
        Checks.wrongTown(x, "wave", 0);
    }

    /** A line is wrong at its end as long as it isn't whole. */
    private static void cutShort() {
        String[][] lines = {{"habit", " 0", " kiss", " 2", " right", " weight", " 3"}, {"person", " 0", " hand", " rank", " 1", " bent", " 2"},
            {"cold", " 0"}, {"tie", " 0", " 1"}, {"stomach", " 1"}, {"air", " 1"}, {"noses", " 1"}};
        for (String[] line : lines) {
            CheekTown x = Checks.townOf(TWO);
            String text = "";
            for (int i = 0; i < line.length; i++) {
                text = text + line[i];
                if (i < line.length - 1) {
                    Checks.wrongTown(x, text, text.length());
                    Checks.wrongTown(x, text + " ", text.length() + 1);
                    Checks.wrongTown(x, text + " ;land", text.length() + 1);
                } else {
                    Checks.wrongTown(x, text + ";", text.length() + 1);
                    Checks.rightTown(x, text + " ");
                }
            }
        }
    }

    private static void wrongNumbers() {
        CheekTown x = new CheekTown();
        Checks.wrongTown(x, "cold 0", 5);
        Checks.wrongTown(x, "tie 0 1", 4);
        Checks.wrongTown(x, "habit 0 wave weight 1", 6);
        Checks.wrongTown(x, "person 0 wave rank 1 bent 1", 7);
        Checks.wrongTown(x, "habit 0 wave weight 1;land", 6);
        Checks.wrongTown(x, "land;person 0 wave rank 0 bent 0;tie 0 1;person 0 wave rank 0 bent 0", 39);
        Checks.rightTown(x, "land;person 0 wave rank 0 bent 0;person 0 wave rank 0 bent 0;tie 0 1");
    }

    private static void tooMany() {
        CheekTown x = new CheekTown();
        Checks.wrongTown(x, "land;land;land;land;land;land; land", 31);
        Checks.wrongTown(x, "air 1;air 1;air 1;air 1;air 1;air 1;air 1;air 1;air 1;air 1;air 1;air 1;air 1;air 1;land", 84);
        Checks.wrongTown(x, "air 1;air 1;air 1;air 1;air 1;air 1;air 1;air 1;air 1;air 1;air 1;air 1;air 1;air 1;", 84);
        Checks.wrongTown(x, "air 1;air 1;air 1;air 1;air 1;air 1;air 1;air 1;air 1;air 1;air 1;air 1;air 1;air 1 ; 7", 86);
        Checks.rightTown(x, "air 1;air 1;air 1;air 1;air 1;air 1;air 1;air 1;air 1;air 1;air 1;air 1;air 1;air 3");
        Checks.due("14 lines", x.count(15), 3);
        Checks.rightTown(x, "land;land;land;land;land;land");
        Checks.wrongTown(x, "land", 0);
        String person = "person 5 wave rank 1 bent 1";
        Checks.rightTown(x, person + (";" + person).repeat(8));
        Checks.due("nine people", x.count(2), 9);
        Checks.wrongTown(x, person + ";person 9 wave rank 1 bent 1", 28);
        Checks.rightTown(x, person);
        Checks.due("ten people", x.count(2), 10);
        Checks.wrongTown(x, "person 9 wave", 0);
        tooManyHabitsAndTies();
    }

    private static void tooManyHabitsAndTies() {
        CheekTown x = Checks.townOf("land");
        String twelve = "habit 0 wave weight 1" + ";habit 0 wave weight 1".repeat(11);
        Checks.rightTown(x, twelve);
        Checks.rightTown(x, twelve);
        Checks.due("24 habits", x.count(1), 24);
        Checks.wrongTown(x, "land;habit 9 wave", 5);
        Checks.due("all weight", x.habit(0, 0), 24);
        CheekTown y = Checks.townOf("land");
        String person = "person 0 wave rank 1 bent 1";
        String five = person + (";" + person).repeat(4);
        Checks.rightTown(y, five);
        Checks.rightTown(y, five);
        int tied = 0;
        for (int p = 0; p < 10; p++) {
            for (int q = p + 1; q < 10 && tied < 22; q++) {
                Checks.due("tie", y.ties(p, q), tied);
                tied++;
            }
        }
        Checks.wrongTown(y, "tie 8 9;tie 9 7;tie 8 7", 16);
        Checks.due("22 ties", y.count(3), 22);
        Checks.rightTown(y, "tie 8 9;tie 9 7");
        Checks.wrongTown(y, "tie 8 7", 0);
        Checks.wrongTown(y, " tie", 1);
    }

    private static void ties() {
        CheekTown x = Checks.townOf(TWO);
        Checks.wrongTown(x, "tie 0 0", 6);
        Checks.wrongTown(x, "tie 0 2", 6);
        Checks.wrongTown(x, "tie 2 2", 4);
        Checks.wrongTown(x, "tie 0 1;tie 0 1", 14);
        Checks.wrongTown(x, "tie 0 1;tie 1 0", 14);
        Checks.rightTown(x, "tie 1 0");
        Checks.wrongTown(x, "tie 1  0", 7);
        Checks.wrongTown(x, "tie 0 1", 6);
        x.cut(0);
        Checks.rightTown(x, "tie 0 1");
    }

    private static void nothingStays() {
        CheekTown x = Checks.townOf(TWO);
        x.meet(0, 1);
        Checks.wrongTown(x, "land;person 1 wave rank 1 bent 1;tie 0 2;cold 1;stomach 3;air 4;noses 5;habit 0 wave weight 1;hug", 94);
        int[] counts = {1, 0, 2, 0, 1, -1, 0, 1, 5, 1, 1, 0, 1, 1, 10, 2, 5};
        for (int what = 0; what < counts.length; what++) {
            Checks.due("refused: count(" + what + ")", x.count(what), counts[what]);
        }
        Checks.due("an act stays remembered", x.undo(), true);
        Checks.due("fault stays", x.fault(), 94);
        Checks.rightTown(x, "");
        Checks.due("fault() behind a right text", x.fault(), -1);
        x.meet(0, 1);
        Checks.rightTown(x, " ");
        Checks.due("behind a text no act is remembered", x.count(13), 0);
        Checks.due("behind a text no act is remembered", x.undo(), false);
    }

    private static void twelveTexts() {
        CheekTown x = Checks.townOf(TWO);
        for (int i = 2; i <= 12; i++) {
            Checks.due("texts", Checks.town(x, ""), i);
        }
        x.meet(0, 1);
        Checks.feed(x, "hug");
        Checks.thrown("a 13th text that is wrong", Checks.ARGUMENT, x::town);
        Checks.due("its fault", x.fault(), 0);
        Checks.feed(x, "land;land");
        Checks.thrown("a 13th text", Checks.UNSUPPORTED, x::town);
        Checks.due("it was read, and is right", x.fault(), -1);
        Checks.due("it used the tape up", x.end(1), false);
        Checks.due("it brought nothing", x.count(0), 1);
        Checks.due("an act is still remembered", x.count(13), 1);
        Checks.due("there are 12", x.count(4), 12);
        Checks.due("the law is no text of the town", Checks.law(x, "wave"), 1);
    }
}
