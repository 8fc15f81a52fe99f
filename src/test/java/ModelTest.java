import java.lang.reflect.InvocationTargetException;
import java.lang.reflect.Method;
import java.nio.charset.StandardCharsets;
import java.util.ArrayList;
import java.util.List;
import java.util.Random;

/** Runs of calls by chance (always the same ones): each answers as SlowTown does, or throws what that throws. */
public final class ModelTest {
    private static final int CALLS = 512;
    private static final String[] SEEN = {"person", "saw", "tie", "will", "log", "count", "habit", "cost"};
    private static final String[] ACTS = {"meet", "meet", "rounds", "own", "cold", "ties", "cut", "feast", "undo", "back", "image", "seed"};
    private static final String[] ASKED = {"expected", "best", "safest", "odds", "worth", "rests", "sake", "table", "pairs", "begins",
        "after", "custom", "still", "told", "colds", "spared", "changed", "trial", "span"};

    private final Random random;
    private final Texts texts;
    private final CheekTown town = new CheekTown();
    private final SlowTown slow = new SlowTown();
    private final List<String> story = new ArrayList<>();

    private ModelTest(long seed) {
        random = new Random(seed);
        texts = new Texts(random);
    }

    public static void main(String[] args) throws Exception {
        int runs = args.length > 0 ? Integer.parseInt(args[0]) : 60;
        int first = args.length > 1 ? Integer.parseInt(args[1]) : 0;
        for (int i = first; i < first + runs; i++) {
            ModelTest run = new ModelTest(i);
            if (!run.goes()) {
                Checks.fail("run " + i + " goes wrong: " + run.story);
                break;
            }
        }
        Checks.due("runs", runs, runs);
        Checks.finish();
    }

    private boolean goes() throws Exception {
        while (story.size() < CALLS) {
            int kind = random.nextInt(100);
            boolean right;
            if (kind < (story.size() < 160 ? 50 : 4)) {
                right = tells("town", texts.town(slow).getBytes(StandardCharsets.ISO_8859_1));
            } else if (kind < 53 && story.size() < 160 || kind < 6) {
                right = tells("law", texts.law().getBytes(StandardCharsets.ISO_8859_1));
            } else if (kind < 8) {
                right = tellsFrom();
            } else if (kind < 9) {
                right = calls(random.nextBoolean() ? "end" : "feed");
            } else {
                String[] names = kind < 40 ? SEEN : kind < 65 ? ACTS : ASKED;
                right = calls(names[random.nextInt(names.length)]);
            }
            if (!right || !looksAlike()) {
                return false;
            }
        }
        return true;
    }

    private boolean looksAlike() {
        for (int what = -1; what <= 17; what++) {
            if (town.count(what) != slow.count(what)) {
                story.add("count(" + what + ") " + town.count(what) + " due " + slow.count(what));
                return false;
            }
        }
        if (town.fault() != slow.fault()) {
            story.add("fault() " + town.fault() + " due " + slow.fault());
            return false;
        }
        return true;
    }

    private boolean tells(String name, byte[] text) throws Exception {
        call("end", 0);
        for (int at = 0; at < text.length; at += 20) {
            Object[] numbers = new Object[5];
            for (int i = 0; i < 5; i++) {
                int number = 0;
                for (int j = 0; j < 4; j++) {
                    int k = at + 4 * i + j;
                    number = number << 8 | (k < text.length ? text[k] & 255 : 0);
                }
                numbers[i] = number;
            }
            if (!call("feed", numbers)) {
                return false;
            }
        }
        story.add(new String(text, StandardCharsets.ISO_8859_1));
        return call("end", text.length) && call(name);
    }

    private boolean tellsFrom() throws Exception {
        byte[] seen = new byte[random.nextInt(6)];
        for (int i = 0; i < seen.length; i++) {
            seen[i] = (byte) greeting();
        }
        boolean fed = call("end", 0);
        for (int i = 0; i < seen.length; i++) {
            int number = seen[i] << 24;
            fed = fed && call("end", i) && call("feed", number, 0, 0, 0, 0);
        }
        return fed && call("end", seen.length) && call("from", random.nextBoolean());
    }

    private int greeting() {
        return random.nextInt(4) > 0 ? new int[] {0, 8, 16, 17, 18, 19, 21, 23, 24}[random.nextInt(9)] : random.nextInt(34) - 1;
    }

    private int person() {
        int people = slow.count(2);
        return random.nextInt(20) == 0 || people == 0 ? random.nextInt(13) - 1 : random.nextInt(people);
    }

    private int land() {
        int lands = slow.count(0);
        return random.nextInt(20) == 0 || lands == 0 ? random.nextInt(8) - 1 : random.nextInt(lands);
    }

    private int tie() {
        int ties = slow.count(3);
        return random.nextInt(10) == 0 || ties == 0 ? random.nextInt(26) - 1 : random.nextInt(ties);
    }

    private int what(int most) {
        return random.nextInt(most + 3) - 1;
    }

    private int upTo(int most) {
        int kind = random.nextInt(20);
        return kind == 0 ? -1 : kind == 1 ? most + 1 : kind == 2 ? most : random.nextInt(kind < 5 ? most : 5);
    }

    private int set() {
        return random.nextInt(8) == 0 ? random.nextInt() : random.nextInt(1024);
    }

    private boolean yes() {
        return random.nextBoolean();
    }

    private boolean calls(String name) throws Exception {
        switch (name) {
            case "feed": return call(name, random.nextInt(), random.nextInt(), random.nextInt(), random.nextInt(), random.nextInt());
            case "end": return call(name, random.nextInt(420) - 10);
            case "cost": return call(name, greeting(), greeting());
            case "habit": case "expected": case "odds": return call(name, land(), greeting());
            case "best": return call(name, land());
            case "person": return call(name, person(), what(6));
            case "saw": return call(name, person(), person(), yes());
            case "sake": return call(name, person(), person(), yes());
            case "tie": return call(name, tie(), yes());
            case "cut": return random.nextInt(3) > 0 || call(name, tie());
            case "will": case "meet": case "ties": case "rests": return call(name, person(), person());
            case "rounds": return random.nextInt(3) > 0 || call(name, upTo(50));
            case "own": return call(name, person(), greeting());
            case "cold": return call(name, person(), yes());
            case "feast": return call(name, set() & (yes() ? -1 : 3), greeting());
            case "table": return call(name, random.nextInt(8) > 0 ? set() & 0x177 : set(), random.nextInt(12) - 2);
            case "begins": return call(name, what(2));
            case "after": return call(name, upTo(60), what(2));
            case "custom": return call(name, person(), upTo(60));
            case "told": return random.nextInt(4) > 0 || call(name, greeting(), upTo(random.nextInt(10) > 0 ? 4 : 60));
            case "colds": return call(name, set(), upTo(20));
            case "spared": return call(name, person(), upTo(20));
            case "trial": return call(name, upTo(20), what(3));
            case "span": return call(name, upTo(20), yes());
            case "log": return call(name, random.nextInt(random.nextInt(3) == 0 ? 64 : 8) - 1, what(7));
            case "count": return call(name, what(16));
            case "seed": return call(name, random.nextInt());
            case "back": return random.nextInt(6) > 0 || call(name);
            case "image": return random.nextInt(3) > 0 || call(name);
            case "pairs": case "safest": case "changed": return call(name, yes());
            default: return call(name);
        }
    }

    private boolean call(String name, Object... arguments) throws Exception {
        Class<?>[] types = new Class<?>[arguments.length];
        StringBuilder told = new StringBuilder(name).append('(');
        for (int i = 0; i < types.length; i++) {
            types[i] = arguments[i] instanceof Boolean ? boolean.class : int.class;
            told.append(i == 0 ? "" : ", ").append(arguments[i]);
        }
        String got = answer(CheekTown.class.getMethod(name, types), town, arguments);
        String due = answer(SlowTown.class.getDeclaredMethod(name, types), slow, arguments);
        story.add(told.append(") ").append(got).toString());
        if (!got.equals(due)) {
            story.add("due " + due);
        }
        return got.equals(due);
    }

    private static String answer(Method m, Object on, Object[] arguments) throws Exception {
        try {
            return String.valueOf(m.invoke(on, arguments));
        } catch (InvocationTargetException e) {
            return e.getCause().getClass().getName();
        }
    }
}
