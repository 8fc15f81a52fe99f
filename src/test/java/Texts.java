import java.util.Random;

/** Texts by chance: mostly right ones, some a byte away from right. */
final class Texts {
    private static final String[] BAD = {"hug", "land", "0", "1000", "7", ";", "(", ")", "not", "<", "+", "if", "or", "left", "X", "\u00e9", " ", "kiss"};

    private final Random random;

    Texts(Random random) {
        this.random = random;
    }

    private int below(int n) {
        return random.nextInt(n);
    }

    private String blank() {
        return below(6) == 0 ? "  " : " ";
    }

    private String maybeBlank() {
        return below(5) == 0 ? " " : "";
    }

    String greeting() {
        switch (below(6)) {
            case 0: return "wave";
            case 1: return "hand";
            case 2: return "embrace";
            default: return "kiss" + blank() + (1 + below(4)) + blank() + (below(2) == 0 ? "left" : "right");
        }
    }

    /** A text for a town as it is by now: most often one that stays within the limits. */
    String town(SlowTown town) {
        StringBuilder b = new StringBuilder(maybeBlank());
        int lands = town.count(0);
        int habits = town.count(1);
        int people = town.count(2);
        int ties = town.count(3);
        boolean heedless = below(12) == 0;
        int lines = 1 + below(14);
        for (int i = 0; i < lines && b.length() < 350; i++) {
            b.append(i == 0 ? "" : maybeBlank() + ";" + maybeBlank());
            int kind = below(20);
            if (lands == 0 || (lands < 6 || heedless) && kind == 0) {
                b.append("land");
                lands++;
            } else if ((habits < 24 || heedless) && kind <= 5) {
                b.append("habit").append(blank()).append(below(lands)).append(blank()).append(greeting());
                b.append(blank()).append("weight").append(maybeBlank()).append(1 + below(9));
                habits++;
            } else if ((people < 10 || heedless) && kind <= 11) {
                b.append("person ").append(below(lands)).append(blank()).append(greeting()).append(" rank").append(blank());
                b.append(below(10)).append(" bent ").append(below(3) == 0 ? below(2) * 100 : below(101));
                people++;
            } else if (kind == 12 && people > 0) {
                b.append("cold ").append(below(people));
            } else if (people > 1 && (ties < 24 || heedless) && kind <= 18) {
                b.append(tie(town, people));
                ties++;
            } else {
                b.append(new String[] {"stomach ", "air ", "noses "}[below(3)]).append(below(4) == 0 ? below(3) : below(100));
            }
        }
        return spoilt(b.append(maybeBlank()).toString());
    }

    private String tie(SlowTown town, int people) {
        int who = below(people);
        int whom = below(people);
        for (int i = 0; i < 20 && (who == whom || isTied(town, who, whom)); i++) {
            who = below(people);
            whom = below(people);
        }
        return "tie " + who + blank() + whom;
    }

    private static boolean isTied(SlowTown town, int who, int whom) {
        int told = town.count(2);
        return who < told && whom < told && (town.person(who, 5) & 1 << whom) != 0;
    }

    String law() {
        StringBuilder b = new StringBuilder(maybeBlank());
        int lines = below(8) == 0 ? 10 + below(4) : 1 + below(4);
        for (int i = 0; i < lines && b.length() < 330; i++) {
            b.append(i == 0 ? "" : maybeBlank() + ";" + maybeBlank()).append(greeting());
            if (below(8) != 0) {
                b.append(" if ");
                any(b, 0);
            }
        }
        return spoilt(b.append(maybeBlank()).toString());
    }

    private void any(StringBuilder b, int deep) {
        all(b, deep);
        while (below(4) == 0) {
            b.append(" or ");
            all(b, deep);
        }
    }

    private void all(StringBuilder b, int deep) {
        atom(b, deep);
        while (below(4) == 0) {
            b.append(" and ");
            atom(b, deep);
        }
    }

    private void atom(StringBuilder b, int deep) {
        int kind = below(10);
        if (kind == 0 && deep < 7) {
            b.append("not ");
            atom(b, deep + 1);
        } else if (kind <= 2 && deep < 7) {
            b.append("(").append(maybeBlank());
            any(b, deep + 1);
            b.append(maybeBlank()).append(")");
        } else if (kind == 3) {
            b.append("same");
        } else if (kind == 4) {
            b.append("cold");
        } else {
            sum(b);
            b.append(maybeBlank()).append(below(2) == 0 ? "<" : ">").append(maybeBlank());
            sum(b);
        }
    }

    private void sum(StringBuilder b) {
        part(b);
        while (below(4) == 0) {
            b.append(maybeBlank()).append("+").append(maybeBlank());
            part(b);
        }
    }

    private void part(StringBuilder b) {
        int kind = below(9);
        b.append(kind < 6 ? new String[] {"who", "whom", "rank", "theirs", "met", "round"}[kind] : String.valueOf(below(kind == 6 ? 1000 : 10)));
    }

    private String spoilt(String text) {
        if (below(4) != 0) {
            return text;
        }
        StringBuilder b = new StringBuilder(text);
        int at = below(b.length() + 1);
        switch (below(4)) {
            case 0:
                b.insert(at, BAD[below(BAD.length)]);
                break;
            case 1:
                b.setLength(at);
                break;
            case 2:
                b.delete(at, Math.min(b.length(), at + 1 + below(5)));
                break;
            default:
                if (at < b.length()) {
                    b.setCharAt(at, (char) below(256));
                }
        }
        return b.toString();
    }
}
