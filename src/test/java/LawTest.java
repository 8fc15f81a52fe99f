/** Promises 5, 6 and 12: the law, where its text is wrong, and how one begins. */
public final class LawTest {
    /** 0 and 1 of land 0, 2 of land 1; OWN kiss 2 right, wave, hand; RANK 5, 3, 5. */
    private static final String THREE = "land;land;person 0 kiss 2 right rank 5 bent 0;person 0 wave rank 3 bent 0;person 1 hand rank 5 bent 0";

    public static void main(String[] args) {
        lines();
        wrongLaws();
        cutShort();
        depth();
        atoms();
        joins();
        begins();
        inPlace();
        Checks.finish();
    }

    private static void lines() {
        CheekTown x = new CheekTown();
        Checks.rightLaw(x, "", 0);
        Checks.due("an empty law is one", x.count(5), 0);
        Checks.rightLaw(x, "    ", 0);
        Checks.rightLaw(x, "wave", 1);
        Checks.rightLaw(x, " kiss 3 left if same ; hand", 2);
        Checks.due("count(5)", x.count(5), 2);
        String twelve = "wave" + ";wave".repeat(11);
        Checks.rightLaw(x, twelve, 12);
        Checks.wrongLaw(x, twelve + "; wave", 61);
        Checks.wrongLaw(x, twelve + ";", 60);
        Checks.wrongLaw(x, twelve + ";7", 60);
        Checks.due("a refused law leaves the law", x.count(5), 12);
        Checks.rightLaw(x, "wave if same", 1);
    }

    private static void wrongLaws() {
        CheekTown x = new CheekTown();
        Checks.wrongLaw(x, "hug", 0);
        Checks.wrongLaw(x, "  hug", 2);
        Checks.wrongLaw(x, "if same", 0);
        Checks.wrongLaw(x, "3", 0);
        Checks.wrongLaw(x, ";", 0);
        Checks.wrongLaw(x, "wave;", 5);
        Checks.wrongLaw(x, "wave ; ", 7);
        Checks.wrongLaw(x, "wave;;wave", 5);
        Checks.wrongLaw(x, "wave wave", 5);
        Checks.wrongLaw(x, "wave same", 5);
        Checks.wrongLaw(x, "kiss", 4);
        Checks.wrongLaw(x, "kiss 0 left", 5);
        Checks.wrongLaw(x, "kiss 5 left", 5);
        Checks.wrongLaw(x, "kiss 1", 6);
        Checks.wrongLaw(x, "kiss 1 if same", 7);
        Checks.rightLaw(x, "kiss1left", 1);
        Checks.rightLaw(x, "kiss 001 left", 1);
        Checks.wrongLaw(x, "kiss 0001 left", 5);
        Checks.wrongLaw(x, "wave if", 7);
        Checks.wrongLaw(x, "wave if ", 8);
        Checks.wrongLaw(x, "wave if ;", 8);
        Checks.wrongLaw(x, "wave if up", 8);
        Checks.wrongLaw(x, "wave if met", 11);
        Checks.wrongLaw(x, "wave if met same", 12);
        Checks.wrongLaw(x, "wave if met <", 13);
        Checks.wrongLaw(x, "wave if met < same", 14);
        Checks.wrongLaw(x, "wave if met < 1000", 14);
        Checks.rightLaw(x, "wave if met < 999", 1);
        Checks.wrongLaw(x, "wave if 9999 < met", 8);
        Checks.wrongLaw(x, "wave if met < 3 < 4", 16);
        Checks.wrongLaw(x, "wave if met = 3", 12);
        Checks.wrongLaw(x, "wave if met + < 3", 14);
        Checks.wrongLaw(x, "wave if met + 3", 15);
        Checks.wrongLaw(x, "wave if (met) < 3", 12);
        Checks.wrongLaw(x, "wave if same < 3", 13);
        Checks.wrongLaw(x, "wave if same and", 16);
        Checks.wrongLaw(x, "wave if same or", 15);
        Checks.wrongLaw(x, "wave if same and or same", 17);
        Checks.wrongLaw(x, "wave if or same", 8);
        Checks.wrongLaw(x, "wave if same same", 13);
        Checks.wrongLaw(x, "wave if same not same", 13);
        Checks.wrongLaw(x, "wave if (same", 13);
        Checks.wrongLaw(x, "wave if (same;wave", 13);
        Checks.wrongLaw(x, "wave if same)", 12);
        Checks.wrongLaw(x, "wave if ()", 9);
        Checks.wrongLaw(x, "wave if not", 11);
        Checks.wrongLaw(x, "wave if samecold", 8);
        Checks.wrongLaw(x, "wave if same;hug", 13);
        Checks.wrongLaw(x, "land", 0);
    }

    /** Whatever goes on is wrong at its end, as long as it isn't whole. */
    private static void cutShort() {
        CheekTown x = new CheekTown();
        String[] parts = {"kiss", " 2", " left", " if", " (", " not", " rank", " +", " 3", " <", " met", " and", " same", " )", " or", " cold", " ;", " wave"};
        String text = "";
        for (int i = 0; i < parts.length; i++) {
            text = text + parts[i];
            if (i == 2 || i == 13 || i == 15 || i == 17) {
                Checks.rightLaw(x, text, i == 17 ? 2 : 1);
            } else {
                Checks.wrongLaw(x, text, text.length());
                Checks.wrongLaw(x, text + "  ", text.length() + 2);
                Checks.wrongLaw(x, text + " ?", text.length() + 1);
            }
        }
    }

    private static void depth() {
        CheekTown x = new CheekTown();
        Checks.rightLaw(x, "wave if ((((((same))))))", 1);
        Checks.wrongLaw(x, "wave if (((((((same)))))))", 14);
        Checks.rightLaw(x, "wave if not not not not not not same", 1);
        Checks.wrongLaw(x, "wave if not not not not not not not same", 32);
        Checks.rightLaw(x, "wave if not (not (not (same)))", 1);
        Checks.wrongLaw(x, "wave if not (not (not (not same)))", 23);
        Checks.wrongLaw(x, "wave if not (not (not ( (same))))", 24);
        Checks.rightLaw(x, "wave if ((((((same)))))) and ((((((same)))))) or not not not not not not cold", 1);
        // a pending or, and, and a sum at each of the seven levels
        Checks.rightLaw(x, "wave if " + "0<1 or same and (".repeat(6) + "0<1 or same and 1+1+1<1+2+met" + ")".repeat(6), 1);
    }

    private static boolean holds(CheekTown x, String condition, int who, int whom) {
        Checks.rightLaw(x, "kiss 4 left if " + condition, 1);
        return x.will(who, whom) == 22;
    }

    private static void atoms() {
        CheekTown x = Checks.townOf(THREE);
        Checks.due("same", holds(x, "same", 0, 1), true);
        Checks.due("same", holds(x, "same", 0, 2), false);
        Checks.due("cold", holds(x, "cold", 0, 1), false);
        Checks.town(x, "cold 1");
        Checks.due("cold of the other one", holds(x, "cold", 0, 1), true);
        Checks.due("cold of oneself", holds(x, "cold", 1, 2), true);
        Checks.due("cold of somebody else", holds(x, "cold", 0, 2), false);
        Checks.due("not cold", holds(x, "not cold", 0, 1), false);
        Checks.due("cold and same", holds(x, "cold and same", 0, 1), true);
        Checks.due("rank", holds(x, "rank > 4", 0, 1), true);
        Checks.due("rank", holds(x, "rank > 4", 1, 0), false);
        Checks.due("theirs", holds(x, "theirs > 4", 1, 0), true);
        Checks.due("theirs", holds(x, "theirs > 4", 0, 1), false);
        Checks.due("who", holds(x, "who > 1", 2, 0), true);
        Checks.due("who", holds(x, "who > 1", 0, 2), false);
        Checks.due("whom", holds(x, "whom > 1", 0, 2), true);
        Checks.due("whom", holds(x, "whom > 1", 2, 0), false);
        Checks.due("equal is not less", holds(x, "rank < theirs", 0, 2), false);
        Checks.due("equal is not more", holds(x, "rank > theirs", 0, 2), false);
        Checks.due("less", holds(x, "rank < theirs", 1, 2), true);
        Checks.due("sums", holds(x, "rank + theirs + 2 > 9", 0, 1), true);
        Checks.due("sums", holds(x, "rank + theirs + 2 > 10", 0, 1), false);
        Checks.due("sums", holds(x, "7 < who+whom+rank", 2, 0), false);
        Checks.due("sums", holds(x, "6 < who+whom+rank", 2, 0), true);
        Checks.due("999 and 999", holds(x, "999 + 998 < 999 + 999", 0, 1), true);
        Checks.due("met none", holds(x, "met < 1", 0, 1), true);
        Checks.rightLaw(x, "", 0);
        x.meet(0, 1);
        Checks.due("met once", holds(x, "met < 1", 1, 0), false);
        Checks.due("met once", holds(x, "met < 1", 1, 2), true);
        Checks.due("round 0", holds(x, "round > 0", 1, 2), false);
        x.rounds(3);
        Checks.due("round 3", holds(x, "round > 2", 1, 2), true);
        Checks.due("round 3", holds(x, "round > 3", 1, 2), false);
    }

    private static void joins() {
        CheekTown x = Checks.townOf(THREE);
        String yes = "same";
        String no = "cold";
        Checks.due("not", holds(x, "not same", 0, 1), false);
        Checks.due("not not", holds(x, "not not same", 0, 1), true);
        Checks.due("not goes with one atom", holds(x, "not cold and same", 0, 1), true);
        Checks.due("not goes with one atom", holds(x, "not same or same", 0, 1), true);
        Checks.due("not of a comparison", holds(x, "not rank < 3", 0, 1), true);
        Checks.due("not of brackets", holds(x, "not (same or cold)", 0, 1), false);
        for (int i = 0; i < 8; i++) {
            String a = (i & 4) != 0 ? yes : no;
            String b = (i & 2) != 0 ? yes : no;
            String c = (i & 1) != 0 ? yes : no;
            boolean p = (i & 4) != 0;
            boolean q = (i & 2) != 0;
            boolean r = (i & 1) != 0;
            Checks.due(i + ": and ahead of or", holds(x, a + " or " + b + " and " + c, 0, 1), p || q && r);
            Checks.due(i + ": and ahead of or", holds(x, a + " and " + b + " or " + c, 0, 1), p && q || r);
            Checks.due(i + ": brackets", holds(x, "(" + a + " or " + b + ") and " + c, 0, 1), (p || q) && r);
            Checks.due(i + ": and and", holds(x, a + " and " + b + " and " + c, 0, 1), p && q && r);
            Checks.due(i + ": or or", holds(x, a + " or " + b + " or " + c, 0, 1), p || q || r);
        }
    }

    private static void begins() {
        CheekTown x = Checks.townOf(THREE);
        Checks.due("without a law: OWN", x.will(0, 1), 19);
        Checks.due("without a law: OWN", x.will(2, 1), 8);
        Checks.rightLaw(x, "hand if who<1;embrace if whom < 1;wave if same", 3);
        Checks.due("the first line that holds", x.will(0, 1), 8);
        Checks.due("the second line", x.will(1, 0), 24);
        Checks.due("no line holds: OWN", x.will(2, 1), 8);
        Checks.due("no line holds: OWN", x.will(1, 2), 0);
        Checks.rightLaw(x, "", 0);
        x.meet(0, 1);
        Checks.due("behind a meeting: what one saw", x.will(0, 1), 0);
        Checks.due("behind a meeting: what one saw", x.will(1, 0), 19);
        Checks.due("of another one nothing was seen", x.will(0, 2), 19);
        x.own(0, 23);
        Checks.due("what one saw goes ahead of OWN", x.will(0, 1), 0);
        Checks.rightLaw(x, "embrace", 1);
        Checks.due("the law goes ahead of what one saw", x.will(0, 1), 24);
        Checks.thrown("will of one", Checks.ARGUMENT, () -> x.will(1, 1));
        Checks.thrown("will of nobody", Checks.INDEX, () -> x.will(3, 3));
        Checks.thrown("will of nobody", Checks.INDEX, () -> x.will(-1, 0));
        Checks.thrown("will with nobody", Checks.INDEX, () -> x.will(0, 3));
    }

    private static void inPlace() {
        CheekTown x = Checks.townOf(THREE);
        Checks.rightLaw(x, "hand", 1);
        x.image();
        x.meet(0, 1);
        Checks.wrongLaw(x, "wave;embrace hug", 13);
        Checks.due("a refused law leaves the law", x.will(0, 1), 8);
        Checks.due("and the acts", x.count(13), 1);
        Checks.rightLaw(x, "embrace;wave", 2);
        Checks.due("in place of the one before", x.will(0, 1), 24);
        Checks.due("a law leaves no act to be undone", x.undo(), false);
        Checks.due("a law is no text of the town", x.count(4), 1);
        x.back();
        Checks.due("the image has the law of its time", x.will(0, 1), 8);
        Checks.due("and its lines", x.count(5), 1);
    }
}
