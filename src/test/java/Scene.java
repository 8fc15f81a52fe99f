import java.util.concurrent.Callable;

/** A town in which all is another than at first, and all that can be asked of a town, in one text. */
final class Scene {
    private Scene() {
    }

    /** Two lands, four people of whom 3 has a cold, two ties, a law, acts, an image, a fault, and 13 bytes on the tape. */
    static CheekTown made() {
        CheekTown x = Checks.townOf("land;land;habit 0 kiss 2 left weight 3;habit 1 hand weight 2;habit 0 hand weight 1;air 3;noses 4;stomach 11",
            "person 0 kiss 1 left rank 3 bent 50;person 1 hand rank 2 bent 50;person 0 kiss 4 right rank 2 bent 50;person 1 wave rank 9 bent 0;"
            + "tie 0 1;tie 2 1;cold 3");
        Checks.law(x, "embrace if met > 2;hand if round > 3 and same");
        x.seed(1234567);
        x.image();
        x.meet(0, 1);
        x.rounds(2);
        x.own(3, 24);
        x.cold(3, true);
        x.feast(5, 17);
        x.meet(3, 2);
        Checks.wrongLaw(x, "wave;hug", 5);
        Checks.feed(x, "air 7;land   ");
        return x;
    }

    /** Some 330 calls, the latest of which undo all that can be undone and go back to the image. */
    static String told(CheekTown x) {
        StringBuilder b = new StringBuilder();
        b.append("fault ").append(x.fault()).append(" tape ").append(x.end(14)).append(x.end(13));
        tellState(b, x);
        for (int ago = -1; ago < 7; ago++) {
            for (int what = 0; what < 8; what++) {
                tell(b, ago, what, x.log(ago, what));
            }
        }
        int seed = x.seed(5);
        x.seed(seed);
        b.append("\nSEED ").append(seed);
        for (int n = 0; x.undo(); n++) {
            tell(b, n, x.count(13), x.count(8));
            tell(b, x.person(3, 1), x.person(0, 1), x.person(3, 4));
        }
        b.append("\nimage ").append(x.back());
        tellState(b, x);
        b.append("\ntape ").append(answer(x::town)).append(" lands ").append(x.count(0));
        return b.toString();
    }

    private static void tellState(StringBuilder b, CheekTown x) {
        for (int what = -1; what <= 17; what++) {
            tell(b, what, 0, x.count(what));
        }
        for (int p = 0; p < 5; p++) {
            int one = p;
            for (int what = 0; what < 7; what++) {
                int asked = what;
                b.append(' ').append(answer(() -> x.person(one, asked)));
            }
            for (int q = 0; q < 4; q++) {
                int other = q;
                b.append(' ').append(answer(() -> x.saw(one, other, false))).append(answer(() -> x.saw(one, other, true)));
                b.append(answer(() -> x.will(one, other)));
            }
        }
        for (int t = 0; t < 3; t++) {
            int tie = t;
            b.append(" tie ").append(answer(() -> x.tie(tie, false))).append(answer(() -> x.tie(tie, true)));
        }
        b.append(" habits ").append(x.habit(0, 18)).append(x.habit(0, 8)).append(x.habit(1, 8)).append(x.habit(1, 0));
    }

    private static void tell(StringBuilder b, int call, int argument, int answer) {
        b.append(' ').append(call).append(',').append(argument).append('=').append(answer);
    }

    private static String answer(Callable<?> call) {
        try {
            return String.valueOf(call.call());
        } catch (Exception e) {
            return e.getClass().getSimpleName();
        }
    }
}
