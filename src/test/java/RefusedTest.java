import java.util.function.ToIntFunction;

/**
 * Every call of promises 1 to 45 that is refused: it throws what is told first, and changes nothing but the TAPE, where
 * it is used up, and fault(), where a text is read. And every call that only asks: nothing of it stays.
 */
public final class RefusedTest {
    private static final int LEAST = Integer.MIN_VALUE;
    private static final int MOST = Integer.MAX_VALUE;
    private static final int[] NO_GREETING = {-1, 32, LEAST, MOST};
    private static final int[] NO_LAND = {-1, 2, 6, LEAST, MOST};
    private static final int[] NO_PERSON = {-1, 4, 10, 32, LEAST, MOST};
    private static final int[] NO_TIE = {-1, 2, 24, LEAST, MOST};

    private static final String UNTOUCHED = Scene.told(Scene.made());

    public static void main(String[] args) {
        noGreeting();
        noLand();
        noPerson();
        noTie();
        bothAreOne();
        noNumber();
        noRule();
        noWhat();
        tied();
        noMoreTies();
        texts();
        thirteenthText();
        from();
        asked();
        askedAtEdges();
        Checks.finish();
    }

    private static void refused(String call, Class<? extends RuntimeException> want, ToIntFunction<CheekTown> run) {
        CheekTown x = Scene.made();
        Checks.thrown(call, want, () -> run.applyAsInt(x));
        Checks.due(call + " changes nothing", Scene.told(x).equals(UNTOUCHED), true);
    }

    private static int number(boolean answer) {
        return answer ? 1 : 0;
    }

    /** "IndexOutOfBoundsException: there is no such .. GREETING (by its CODE)", also if a number behind it is none. */
    private static void noGreeting() {
        for (int g : NO_GREETING) {
            refused("cost(" + g + ", 0)", Checks.INDEX, x -> x.cost(g, 0));
            refused("cost(0, " + g + ")", Checks.INDEX, x -> x.cost(0, g));
            refused("habit(0, " + g + ")", Checks.INDEX, x -> x.habit(0, g));
            refused("own(0, " + g + ")", Checks.INDEX, x -> x.own(0, g));
            refused("feast(15, " + g + ")", Checks.INDEX, x -> x.feast(15, g));
            refused("feast(0, " + g + ")", Checks.INDEX, x -> x.feast(0, g));
            refused("expected(0, " + g + ")", Checks.INDEX, x -> x.expected(0, g));
            refused("odds(0, " + g + ")", Checks.INDEX, x -> x.odds(0, g));
            refused("told(" + g + ", 0)", Checks.INDEX, x -> x.told(g, 0));
            refused("told(" + g + ", 61)", Checks.INDEX, x -> x.told(g, 61));
        }
    }

    private static void noLand() {
        for (int l : NO_LAND) {
            refused("habit(" + l + ", 0)", Checks.INDEX, x -> x.habit(l, 0));
            refused("expected(" + l + ", 0)", Checks.INDEX, x -> x.expected(l, 0));
            refused("best(" + l + ")", Checks.INDEX, x -> x.best(l));
            refused("odds(" + l + ", 0)", Checks.INDEX, x -> x.odds(l, 0));
        }
    }

    private static void noPerson() {
        for (int p : NO_PERSON) {
            refused("person(" + p + ", 0)", Checks.INDEX, x -> x.person(p, 0));
            refused("person(" + p + ", 7)", Checks.INDEX, x -> x.person(p, 7));
            refused("own(" + p + ", 0)", Checks.INDEX, x -> x.own(p, 0));
            refused("cold(" + p + ", true)", Checks.INDEX, x -> number(x.cold(p, true)));
            refused("cold(" + p + ", false)", Checks.INDEX, x -> number(x.cold(p, false)));
            refused("custom(" + p + ", 0)", Checks.INDEX, x -> x.custom(p, 0));
            refused("custom(" + p + ", 61)", Checks.INDEX, x -> x.custom(p, 61));
            refused("spared(" + p + ", 0)", Checks.INDEX, x -> x.spared(p, 0));
            refused("spared(" + p + ", 21)", Checks.INDEX, x -> x.spared(p, 21));
            for (int[] two : new int[][] {{p, 0}, {0, p}, {p, p}}) {
                ofTwo(two[0], two[1], Checks.INDEX);
            }
        }
    }

    private static void ofTwo(int p, int q, Class<? extends RuntimeException> want) {
        String two = "(" + p + ", " + q + ")";
        refused("saw" + two, want, x -> x.saw(p, q, false));
        refused("how often met" + two, want, x -> x.saw(p, q, true));
        refused("will" + two, want, x -> x.will(p, q));
        refused("meet" + two, want, x -> x.meet(p, q));
        refused("ties" + two, want, x -> x.ties(p, q));
        refused("rests" + two, want, x -> x.rests(p, q));
        refused("sake" + two, want, x -> x.sake(p, q, false));
        refused("led" + two, want, x -> x.sake(p, q, true));
    }

    private static void noTie() {
        for (int t : NO_TIE) {
            refused("tie(" + t + ", false)", Checks.INDEX, x -> x.tie(t, false));
            refused("tie(" + t + ", true)", Checks.INDEX, x -> x.tie(t, true));
            refused("cut(" + t + ")", Checks.INDEX, x -> x.cut(t));
        }
    }

    /** "IllegalArgumentException: .. two are one". */
    private static void bothAreOne() {
        for (int p = 0; p < 4; p++) {
            ofTwo(p, p, Checks.ARGUMENT);
        }
    }

    /** "IllegalArgumentException: a number is none", also if the what behind it is another. */
    private static void noNumber() {
        for (int n : new int[] {0, 51, -1, LEAST, MOST}) {
            refused("rounds(" + n + ")", Checks.ARGUMENT, x -> x.rounds(n));
        }
        for (int n : new int[] {-1, 61, LEAST, MOST}) {
            refused("after(" + n + ", 0)", Checks.ARGUMENT, x -> x.after(n, 0));
            refused("after(" + n + ", 3)", Checks.ARGUMENT, x -> x.after(n, 3));
            refused("custom(0, " + n + ")", Checks.ARGUMENT, x -> x.custom(0, n));
            refused("told(0, " + n + ")", Checks.ARGUMENT, x -> x.told(0, n));
        }
        for (int n : new int[] {-1, 21, LEAST, MOST}) {
            refused("colds(0, " + n + ")", Checks.ARGUMENT, x -> x.colds(0, n));
            refused("spared(0, " + n + ")", Checks.ARGUMENT, x -> x.spared(0, n));
            refused("spared of one who has one, " + n, Checks.ARGUMENT, x -> x.spared(3, n));
            refused("trial(" + n + ", 0)", Checks.ARGUMENT, x -> x.trial(n, 0));
            refused("trial(" + n + ", 4)", Checks.ARGUMENT, x -> x.trial(n, 4));
            refused("span(" + n + ", false)", Checks.ARGUMENT, x -> x.span(n, false));
            refused("span(" + n + ", true)", Checks.ARGUMENT, x -> x.span(n, true));
        }
    }

    private static void noRule() {
        for (int rule : new int[] {-2, 3, LEAST, MOST}) {
            refused("begins(" + rule + ")", Checks.ARGUMENT, x -> x.begins(rule));
        }
    }

    /** "NoSuchElementException: another what". */
    private static void noWhat() {
        for (int what : new int[] {-1, LEAST, MOST}) {
            refused("person(0, " + what + ")", Checks.NO_SUCH, x -> x.person(0, what));
            refused("after(0, " + what + ")", Checks.NO_SUCH, x -> x.after(0, what));
            refused("trial(0, " + what + ")", Checks.NO_SUCH, x -> x.trial(0, what));
            refused("log(0, " + what + ")", Checks.NO_SUCH, x -> x.log(0, what));
            refused("log(-1, " + what + ")", Checks.NO_SUCH, x -> x.log(-1, what));
        }
        refused("person(0, 7)", Checks.NO_SUCH, x -> x.person(0, 7));
        refused("after(60, 3)", Checks.NO_SUCH, x -> x.after(60, 3));
        refused("trial(20, 4)", Checks.NO_SUCH, x -> x.trial(20, 4));
        refused("log(0, 8)", Checks.NO_SUCH, x -> x.log(0, 8));
        refused("log(60, 8)", Checks.NO_SUCH, x -> x.log(60, 8));
    }

    /** "IllegalStateException: they are", either way. */
    private static void tied() {
        for (int[] two : new int[][] {{0, 1}, {1, 0}, {2, 1}, {1, 2}}) {
            refused("ties(" + two[0] + ", " + two[1] + ")", Checks.STATE, x -> x.ties(two[0], two[1]));
        }
    }

    /** "UnsupportedOperationException: there are 24", told behind all others. */
    private static void noMoreTies() {
        CheekTown x = TextEdgesTest.manyPeople(10);
        TextEdgesTest.tieMany(x, 23);
        Checks.due("a 24th", x.ties(9, 8), 23);
        int acts = x.count(13);
        Checks.thrown("a 25th", Checks.UNSUPPORTED, () -> x.ties(8, 7));
        Checks.thrown("a 25th", Checks.UNSUPPORTED, () -> x.ties(7, 8));
        Checks.thrown("tied already", Checks.STATE, () -> x.ties(8, 9));
        Checks.thrown("both are one", Checks.ARGUMENT, () -> x.ties(9, 9));
        Checks.thrown("nobody", Checks.INDEX, () -> x.ties(10, 10));
        Checks.due("there are 24", x.count(3), 24);
        Checks.due("the latest is as it was told", x.tie(23, false), 9);
        Checks.due("whom 7 is tied to", x.person(7, 5) & 1 << 8, 0);
        Checks.due("none was an act", x.count(13), acts);
    }

    /** A refused text uses the TAPE up and tells its fault; all else is as it was. */
    private static void texts() {
        String untouched = withoutTape(Scene.made());
        String text = "land;land;land;person 4 wave rank 1 bent 1;tie 4 0;cold 0;habit 4 wave weight 1;stomach 1;air 1;noses 1;";
        CheekTown x = Scene.made();
        Checks.wrongTownBehind(x, text, "");
        Checks.due("the TAPE is used up", x.end(1), false);
        Checks.due("a refused text of the town changes nothing else", withoutTape(x).equals(untouched), true);
        CheekTown y = Scene.made();
        Checks.wrongLawBehind(y, "hand;wave if (same", ";hand");
        Checks.due("the TAPE is used up", y.end(1), false);
        Checks.due("a refused law changes nothing else", withoutTape(y).equals(untouched), true);
    }

    /** Nothing is on the tape, and the fault is one and the same. */
    private static String withoutTape(CheekTown x) {
        Checks.wrongLaw(x, "hug", 0);
        return Scene.told(x);
    }

    /** "UnsupportedOperationException: there are 12": the text was read, and is told to be right; all else is as it was. */
    private static void thirteenthText() {
        CheekTown x = Checks.townOf("land", "", "", "", "", "", "", "", "", "", "");
        Checks.due("a 12th", Checks.town(x, "person 0 wave rank 0 bent 0;person 0 hand rank 0 bent 0;tie 0 1"), 12);
        x.meet(0, 1);
        Checks.wrongLaw(x, "hug", 0);
        Checks.feed(x, "land;person 0 wave rank 1 bent 1;cold 0;air 9;habit 0 wave weight 1");
        Checks.thrown("a 13th", Checks.UNSUPPORTED, x::town);
        Checks.due("its fault", x.fault(), -1);
        Checks.due("the TAPE is used up", x.end(1), false);
        int[] counts = {1, 0, 2, 1, 12, -1, 0, 1, 10, 0, 1, 0, 1, 1, 10, 2, 5};
        for (int what = 0; what < counts.length; what++) {
            Checks.due("count(" + what + ")", x.count(what), counts[what]);
        }
        Checks.wrongTown(x, "land;hug", 5);
        Checks.wrongTown(x, "land;land;land;land;land;land", 25);
        Checks.feed(x, "");
        Checks.thrown("an empty 13th", Checks.UNSUPPORTED, x::town);
        Checks.due("its fault", x.fault(), -1);
        Checks.due("the meeting is still remembered", x.undo(), true);
        Checks.due("the law may still be told", Checks.law(x, "wave"), 1);
    }

    /** FROM reads no text: it uses the TAPE up, and all else is as it was. */
    private static void from() {
        String untouched = withoutTape(Scene.made());
        for (String tape : new String[] {"\0\0\0\0\0", "\40", "\10\10\10\40", "\u00ff", "\10\u0080"}) {
            CheekTown x = Scene.made();
            Checks.feed(x, tape);
            Checks.thrown("from", Checks.ARGUMENT, () -> x.from(tape.length() > 2));
            Checks.due("the TAPE is used up", x.end(1), false);
            Checks.due("fault()", x.fault(), 5);
            Checks.due("a refused from changes nothing else", withoutTape(x).equals(untouched), true);
        }
        CheekTown y = Scene.made();
        Checks.due("hand", Checks.from(y, false, 8), 3);
        Checks.due("fault()", y.fault(), 5);
        Checks.due("from changes nothing else", withoutTape(y).equals(untouched), true);
    }

    private static void asks(String call, ToIntFunction<CheekTown> run) {
        CheekTown x = Scene.made();
        run.applyAsInt(x);
        Checks.due(call + " changes nothing", Scene.told(x).equals(UNTOUCHED), true);
    }

    private static void asked() {
        asks("fault", x -> x.fault());
        asks("cost", x -> x.cost(16, 23));
        asks("habit", x -> x.habit(0, 18));
        asks("person", x -> x.person(0, 5));
        asks("saw", x -> x.saw(0, 1, false));
        asks("tie", x -> x.tie(1, true));
        asks("will", x -> x.will(0, 2));
        asks("expected", x -> x.expected(0, 0));
        asks("best", x -> x.best(0));
        asks("safest", x -> x.safest(false) + x.safest(true));
        asks("odds", x -> x.odds(0, 8));
        asks("worth", x -> x.worth());
        asks("rests", x -> x.rests(0, 1));
        asks("sake", x -> x.sake(0, 2, false) + x.sake(2, 0, true));
        asks("table", x -> x.table(15, -1) + x.table(15, 3));
        asks("pairs", x -> x.pairs(false) + x.pairs(true));
        asks("begins", x -> x.begins(-1) + x.begins(0) + x.begins(1) + x.begins(2));
        asks("after", x -> x.after(60, 0) + x.after(1, 1) + x.after(0, 2));
        asks("custom", x -> x.custom(1, 60));
        asks("still", x -> x.still());
        asks("told", x -> x.told(0, 3));
        asks("colds", x -> x.colds(0, 20));
        asks("spared", x -> x.spared(0, 20) + x.spared(3, 0));
        asks("changed", x -> x.changed(false) + x.changed(true));
        asks("trial", x -> x.trial(20, 0) + x.trial(20, 1) + x.trial(20, 2) + x.trial(20, 3));
        asks("span", x -> x.span(20, false) + x.span(20, true));
        asks("log", x -> x.log(0, 7));
        asks("count", x -> x.count(8));
    }

    /** Where the document has an answer instead of an exception, nothing happens either. */
    private static void askedAtEdges() {
        asks("end(-1)", x -> number(x.end(-1)));
        asks("end(least)", x -> number(x.end(LEAST)));
        asks("end(14) of 13", x -> number(x.end(14)));
        asks("end(most)", x -> number(x.end(MOST)));
        asks("end(13) of 13", x -> number(x.end(13)));
        asks("count(-1)", x -> x.count(-1) + x.count(17) + x.count(LEAST) + x.count(MOST));
        asks("log(-1, 0)", x -> x.log(-1, 0) + x.log(60, 0) + x.log(LEAST, 7) + x.log(MOST, 7));
        asks("table of none", x -> x.table(~15, -1) + x.table(-1, LEAST) + x.table(-1, MOST));
        asks("colds of none", x -> x.colds(~15, 20));
    }
}
