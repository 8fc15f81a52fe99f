import java.math.BigInteger;
import java.util.ArrayDeque;
import java.util.ArrayList;
import java.util.Comparator;
import java.util.Deque;
import java.util.LinkedHashSet;
import java.util.List;
import java.util.NoSuchElementException;
import java.util.Set;
import java.util.TreeMap;
import java.util.TreeSet;

/** The document once more, in the plainest form that came to mind and without a thought of speed. */
final class SlowTown {
    private interface Condition {
        boolean holds(State s, int who, int whom);
    }

    private interface Sum {
        int of(State s, int who, int whom);
    }

    private record Line(int greeting, Condition condition) {
    }

    private record Habit(int land, int greeting, int weight) {
    }

    private record Tie(int who, int whom) {
        boolean is(int a, int b) {
            return who == a && whom == b || who == b && whom == a;
        }
    }

    private static final class Person {
        int land;
        int own;
        int rank;
        int bent;
        boolean cold;
        List<Integer> seen = new ArrayList<>();

        Person copy() {
            Person p = new Person();
            p.land = land;
            p.own = own;
            p.rank = rank;
            p.bent = bent;
            p.cold = cold;
            p.seen = new ArrayList<>(seen);
            return p;
        }
    }

    private static final class State {
        int lands;
        List<Habit> habits = new ArrayList<>();
        List<Person> people = new ArrayList<>();
        List<Tie> ties = new ArrayList<>();
        TreeMap<Integer, Integer> saw = new TreeMap<>();
        TreeMap<Integer, Integer> met = new TreeMap<>();
        List<Line> law;
        int texts;
        int stomach = 10;
        int air = 2;
        int noses = 5;
        int seed = 1;
        int round;
        int meetings;
        int cost;
        int yielded;
        int minutes;
        List<int[]> log = new ArrayList<>();

        State copy() {
            State s = new State();
            s.lands = lands;
            s.habits = new ArrayList<>(habits);
            for (Person p : people) {
                s.people.add(p.copy());
            }
            s.ties = new ArrayList<>(ties);
            s.saw = new TreeMap<>(saw);
            s.met = new TreeMap<>(met);
            s.law = law;
            s.texts = texts;
            s.stomach = stomach;
            s.air = air;
            s.noses = noses;
            s.seed = seed;
            s.round = round;
            s.meetings = meetings;
            s.cost = cost;
            s.yielded = yielded;
            s.minutes = minutes;
            s.log = new ArrayList<>(log);
            return s;
        }

        int costOf(int a, int b) {
            if (a / 8 != b / 8) {
                return stomach;
            }
            if (a / 8 != 2) {
                return 0;
            }
            return Math.abs(a % 8 / 2 - b % 8 / 2) * air + (a % 2 != b % 2 ? noses : 0);
        }

        int begins(int who, int whom) {
            if (law != null) {
                for (Line l : law) {
                    if (l.condition == null || l.condition.holds(this, who, whom)) {
                        return l.greeting;
                    }
                }
            }
            return saw.getOrDefault(who * 100 + whom, people.get(who).own);
        }

        int draw() {
            seed = seed * 1103515245 + 12345;
            return (seed >> 16) & 32767;
        }

        int meeting(int a, int b) {
            int[] who = {Math.min(a, b), Math.max(a, b)};
            int[] began = {begins(who[0], who[1]), begins(who[1], who[0])};
            int[] did = began.clone();
            int price = costOf(began[0], began[1]);
            if (price > 0) {
                int first = people.get(who[1]).rank < people.get(who[0]).rank ? 1 : 0;
                for (int asked : new int[] {first, 1 - first}) {
                    if (draw() % 100 < people.get(who[asked]).bent) {
                        did[asked] = began[1 - asked];
                        price = price / 2;
                        yielded++;
                        break;
                    }
                }
            }
            for (int i = 0; i < 2; i++) {
                met.merge(who[i] * 100 + who[1 - i], 1, Integer::sum);
                saw.put(who[i] * 100 + who[1 - i], did[1 - i]);
            }
            for (int i = 0; i < 2; i++) {
                Person p = people.get(who[i]);
                p.seen.add(did[1 - i]);
                int n = p.seen.size();
                if (n >= 3 && p.seen.get(n - 1).equals(p.seen.get(n - 2)) && p.seen.get(n - 1).equals(p.seen.get(n - 3))) {
                    p.own = p.seen.get(n - 1);
                }
            }
            Person one = people.get(who[0]);
            Person other = people.get(who[1]);
            if ((one.cold || other.cold) && did[0] >= 8 && did[1] >= 8) {
                one.cold = true;
                other.cold = true;
            }
            minutes += Math.max(did[0] % 8 / 2, did[1] % 8 / 2) + 1;
            meetings++;
            cost += price;
            log.add(0, new int[] {round, who[0], who[1], began[0], began[1], did[0], did[1], price});
            while (log.size() > 60) {
                log.remove(60);
            }
            return price;
        }

        int rounds(int n) {
            int all = 0;
            for (int i = 0; i < n; i++) {
                for (Tie t : ties) {
                    all += meeting(t.who, t.whom);
                }
                round++;
            }
            return all;
        }

        int weight(int land, int greeting) {
            return habits.stream().filter(h -> h.land == land && h.greeting == greeting).mapToInt(Habit::weight).sum();
        }

        int weight(int land) {
            return habits.stream().filter(h -> h.land == land).mapToInt(Habit::weight).sum();
        }

        int expected(int land, int greeting) {
            return habits.stream().filter(h -> h.land == land).mapToInt(h -> h.weight * costOf(greeting, h.greeting)).sum();
        }

        List<Integer> owns() {
            List<Integer> owns = new ArrayList<>();
            for (Person p : people) {
                owns.add(p.own);
            }
            return owns;
        }

        List<Integer> year(List<Integer> owns) {
            List<Integer> next = new ArrayList<>();
            for (int p = 0; p < owns.size(); p++) {
                TreeMap<Integer, Integer> tally = new TreeMap<>();
                tally.merge(owns.get(p), 1, Integer::sum);
                for (Tie t : ties) {
                    if (t.who == p || t.whom == p) {
                        tally.merge(owns.get(t.who + t.whom - p), 1, Integer::sum);
                    }
                }
                int most = tally.values().stream().max(Comparator.naturalOrder()).orElse(0);
                int choice = tally.keySet().stream().filter(g -> tally.get(g) == most).findFirst().orElse(-1);
                next.add(tally.get(owns.get(p)) == most ? owns.get(p) : choice);
            }
            return next;
        }

        List<Integer> after(List<Integer> owns, int n) {
            List<Integer> then = owns;
            for (int i = 0; i < n; i++) {
                then = year(then);
            }
            return then;
        }

        int colds() {
            int set = 0;
            for (int i = 0; i < people.size(); i++) {
                set += people.get(i).cold ? 1 << i : 0;
            }
            return set;
        }

        int colds(int waving, int n) {
            Set<Integer> sick = new TreeSet<>();
            for (int i = 0; i < people.size(); i++) {
                if (people.get(i).cold) {
                    sick.add(i);
                }
            }
            for (int i = 0; i < n; i++) {
                for (Tie t : ties) {
                    boolean waves = (waving & 1 << t.who) != 0 || (waving & 1 << t.whom) != 0;
                    if (!waves && (sick.contains(t.who) || sick.contains(t.whom))) {
                        sick.add(t.who);
                        sick.add(t.whom);
                    }
                }
            }
            return sick.stream().mapToInt(i -> 1 << i).sum();
        }
    }

    private final List<Integer> tape = new ArrayList<>();
    private int fault = -1;
    private State s = new State();
    private State image;
    private final Deque<State> past = new ArrayDeque<>();

    // ---- texts ----

    private static final class Wrong extends Exception {
        private static final long serialVersionUID = 1L;
        final int at;

        Wrong(int at) {
            this.at = at;
        }
    }

    private static final class Reader {
        final String text;
        int at;

        Reader(String text) {
            this.text = text;
        }

        void blanks() {
            while (at < text.length() && text.charAt(at) == ' ') {
                at++;
            }
        }

        /** The thing that stands next, not taken yet. */
        String peek() {
            blanks();
            int end = at;
            if (end == text.length()) {
                return "";
            }
            String like = isIn(text.charAt(at), 'a', 'z') ? "az" : isIn(text.charAt(at), '0', '9') ? "09" : null;
            if (like == null) {
                return text.substring(at, at + 1);
            }
            while (end < text.length() && isIn(text.charAt(end), like.charAt(0), like.charAt(1))) {
                end++;
            }
            return text.substring(at, end);
        }

        static boolean isIn(char c, char low, char high) {
            return c >= low && c <= high;
        }

        boolean take(String thing) {
            if (!peek().equals(thing)) {
                return false;
            }
            at += thing.length();
            return true;
        }

        void need(String thing) throws Wrong {
            if (!take(thing)) {
                throw new Wrong(at);
            }
        }

        int number(int low, int high) throws Wrong {
            String thing = peek();
            if (!thing.matches("[0-9]{1,3}") || Integer.parseInt(thing) < low || Integer.parseInt(thing) > high) {
                throw new Wrong(at);
            }
            at += thing.length();
            return Integer.parseInt(thing);
        }

        int greeting() throws Wrong {
            String thing = peek();
            switch (thing) {
                case "wave":
                    take(thing);
                    return 0;
                case "hand":
                    take(thing);
                    return 8;
                case "embrace":
                    take(thing);
                    return 24;
                case "kiss":
                    take(thing);
                    int n = number(1, 4);
                    String side = peek();
                    if (!side.equals("left") && !side.equals("right")) {
                        throw new Wrong(at);
                    }
                    take(side);
                    return 16 + 2 * (n - 1) + (side.equals("right") ? 1 : 0);
                default:
                    throw new Wrong(at);
            }
        }
    }

    private static void readTown(String text, State s) throws Wrong {
        Reader r = new Reader(text);
        if (r.peek().isEmpty()) {
            return;
        }
        int lines = 0;
        do {
            String word = r.peek();
            if (++lines > 14) {
                throw new Wrong(r.at);
            }
            boolean full = word.equals("land") && s.lands == 6 || word.equals("habit") && s.habits.size() == 24
                || word.equals("person") && s.people.size() == 10 || word.equals("tie") && s.ties.size() == 24;
            if (full) {
                throw new Wrong(r.at);
            }
            switch (word) {
                case "land":
                    r.take(word);
                    s.lands++;
                    break;
                case "habit":
                    r.take(word);
                    int land = r.number(0, s.lands - 1);
                    int greeting = r.greeting();
                    r.need("weight");
                    s.habits.add(new Habit(land, greeting, r.number(1, 9)));
                    break;
                case "person":
                    r.take(word);
                    Person p = new Person();
                    p.land = r.number(0, s.lands - 1);
                    p.own = r.greeting();
                    r.need("rank");
                    p.rank = r.number(0, 9);
                    r.need("bent");
                    p.bent = r.number(0, 100);
                    s.people.add(p);
                    break;
                case "cold":
                    r.take(word);
                    s.people.get(r.number(0, s.people.size() - 1)).cold = true;
                    break;
                case "tie":
                    r.take(word);
                    int who = r.number(0, s.people.size() - 1);
                    r.blanks();
                    int at = r.at;
                    int whom = r.number(0, s.people.size() - 1);
                    if (who == whom || s.ties.stream().anyMatch(t -> t.is(who, whom))) {
                        throw new Wrong(at);
                    }
                    s.ties.add(new Tie(who, whom));
                    break;
                case "stomach":
                    r.take(word);
                    s.stomach = r.number(0, 99);
                    break;
                case "air":
                    r.take(word);
                    s.air = r.number(0, 99);
                    break;
                case "noses":
                    r.take(word);
                    s.noses = r.number(0, 99);
                    break;
                default:
                    throw new Wrong(r.at);
            }
        } while (r.take(";"));
        if (!r.peek().isEmpty()) {
            throw new Wrong(r.at);
        }
    }

    private static List<Line> readLaw(String text) throws Wrong {
        Reader r = new Reader(text);
        List<Line> lines = new ArrayList<>();
        if (r.peek().isEmpty()) {
            return lines;
        }
        do {
            r.blanks();
            if (lines.size() == 12) {
                throw new Wrong(r.at);
            }
            int greeting = r.greeting();
            lines.add(new Line(greeting, r.take("if") ? condition(r, 0) : null));
        } while (r.take(";"));
        if (!r.peek().isEmpty()) {
            throw new Wrong(r.at);
        }
        return lines;
    }

    private static Condition condition(Reader r, int deep) throws Wrong {
        List<Condition> alls = new ArrayList<>();
        do {
            List<Condition> atoms = new ArrayList<>();
            do {
                atoms.add(atom(r, deep));
            } while (r.take("and"));
            alls.add((s, a, b) -> atoms.stream().allMatch(c -> c.holds(s, a, b)));
        } while (r.take("or"));
        return (s, a, b) -> alls.stream().anyMatch(c -> c.holds(s, a, b));
    }

    private static Condition atom(Reader r, int deep) throws Wrong {
        String thing = r.peek();
        if ((thing.equals("not") || thing.equals("(")) && deep == 6) {
            throw new Wrong(r.at);
        }
        if (r.take("not")) {
            Condition c = atom(r, deep + 1);
            return (s, a, b) -> !c.holds(s, a, b);
        }
        if (r.take("(")) {
            Condition c = condition(r, deep + 1);
            r.need(")");
            return c;
        }
        if (r.take("same")) {
            return (s, a, b) -> s.people.get(a).land == s.people.get(b).land;
        }
        if (r.take("cold")) {
            return (s, a, b) -> s.people.get(a).cold || s.people.get(b).cold;
        }
        Sum left = sum(r);
        if (r.take("<")) {
            Sum right = sum(r);
            return (s, a, b) -> left.of(s, a, b) < right.of(s, a, b);
        }
        r.need(">");
        Sum right = sum(r);
        return (s, a, b) -> left.of(s, a, b) > right.of(s, a, b);
    }

    private static Sum sum(Reader r) throws Wrong {
        List<Sum> parts = new ArrayList<>();
        do {
            parts.add(part(r));
        } while (r.take("+"));
        return (s, a, b) -> parts.stream().mapToInt(p -> p.of(s, a, b)).sum();
    }

    private static Sum part(Reader r) throws Wrong {
        String thing = r.peek();
        switch (thing) {
            case "who":
                r.take(thing);
                return (s, a, b) -> a;
            case "whom":
                r.take(thing);
                return (s, a, b) -> b;
            case "rank":
                r.take(thing);
                return (s, a, b) -> s.people.get(a).rank;
            case "theirs":
                r.take(thing);
                return (s, a, b) -> s.people.get(b).rank;
            case "met":
                r.take(thing);
                return (s, a, b) -> s.met.getOrDefault(a * 100 + b, 0);
            case "round":
                r.take(thing);
                return (s, a, b) -> s.round;
            default:
                int n = r.number(0, 999);
                return (s, a, b) -> n;
        }
    }

    private String tapeText() {
        StringBuilder b = new StringBuilder();
        for (int x : tape) {
            b.append((char) x);
        }
        tape.clear();
        return b.toString();
    }

    // ---- the face ----

    int feed(int a, int b, int c, int d, int e) {
        if (tape.size() + 20 > 400) {
            return -1;
        }
        for (int x : new int[] {a, b, c, d, e}) {
            tape.add(x >> 24 & 255);
            tape.add(x >> 16 & 255);
            tape.add(x >> 8 & 255);
            tape.add(x & 255);
        }
        return tape.size();
    }

    boolean end(int n) {
        if (n < 0 || tape.size() < n) {
            return false;
        }
        while (tape.size() > n) {
            tape.remove(tape.size() - 1);
        }
        return true;
    }

    int town() {
        State then = s.copy();
        fault = -1;
        try {
            readTown(tapeText(), then);
        } catch (Wrong w) {
            fault = w.at;
            throw new IllegalArgumentException();
        }
        if (s.texts == 12) {
            throw new UnsupportedOperationException();
        }
        then.texts++;
        s = then;
        past.clear();
        return s.texts;
    }

    int law() {
        fault = -1;
        try {
            s.law = readLaw(tapeText());
        } catch (Wrong w) {
            fault = w.at;
            throw new IllegalArgumentException();
        }
        past.clear();
        return s.law.size();
    }

    int fault() {
        return fault;
    }

    private static void greeting(int g) {
        if (g < 0 || g > 31) {
            throw new IndexOutOfBoundsException();
        }
    }

    private void land(int l) {
        if (l < 0 || l >= s.lands) {
            throw new IndexOutOfBoundsException();
        }
    }

    private void one(int p) {
        if (p < 0 || p >= s.people.size()) {
            throw new IndexOutOfBoundsException();
        }
    }

    private void two(int p, int q) {
        one(p);
        one(q);
        if (p == q) {
            throw new IllegalArgumentException();
        }
    }

    private static void number(int n, int low, int high) {
        if (n < low || n > high) {
            throw new IllegalArgumentException();
        }
    }

    private void act() {
        past.addLast(s.copy());
        if (past.size() > 12) {
            past.removeFirst();
        }
    }

    private int all() {
        return (1 << s.people.size()) - 1;
    }

    int cost(int g, int h) {
        greeting(g);
        greeting(h);
        return s.costOf(g, h);
    }

    int habit(int l, int g) {
        land(l);
        greeting(g);
        return s.weight(l, g);
    }

    int person(int p, int what) {
        one(p);
        Person x = s.people.get(p);
        switch (what) {
            case 0: return x.land;
            case 1: return x.own;
            case 2: return x.rank;
            case 3: return x.bent;
            case 4: return x.cold ? 1 : 0;
            case 5:
                int set = 0;
                for (Tie t : s.ties) {
                    set |= t.who == p ? 1 << t.whom : t.whom == p ? 1 << t.who : 0;
                }
                return set;
            case 6: return x.seen.size();
            default: throw new NoSuchElementException();
        }
    }

    int saw(int p, int q, boolean met) {
        two(p, q);
        return met ? s.met.getOrDefault(p * 100 + q, 0) : s.saw.getOrDefault(p * 100 + q, -1);
    }

    int tie(int t, boolean other) {
        if (t < 0 || t >= s.ties.size()) {
            throw new IndexOutOfBoundsException();
        }
        return other ? s.ties.get(t).whom : s.ties.get(t).who;
    }

    int will(int p, int q) {
        two(p, q);
        return s.begins(p, q);
    }

    int meet(int p, int q) {
        two(p, q);
        act();
        return s.meeting(p, q);
    }

    int rounds(int n) {
        number(n, 1, 50);
        act();
        return s.rounds(n);
    }

    int own(int p, int g) {
        one(p);
        greeting(g);
        act();
        int was = s.people.get(p).own;
        s.people.get(p).own = g;
        return was;
    }

    boolean cold(int p, boolean comes) {
        one(p);
        act();
        boolean was = s.people.get(p).cold;
        s.people.get(p).cold = comes;
        return was;
    }

    int ties(int p, int q) {
        two(p, q);
        if (s.ties.stream().anyMatch(t -> t.is(p, q))) {
            throw new IllegalStateException();
        }
        if (s.ties.size() == 24) {
            throw new UnsupportedOperationException();
        }
        act();
        s.ties.add(new Tie(p, q));
        return s.ties.size() - 1;
    }

    int cut(int t) {
        tie(t, false);
        act();
        s.ties.remove(t);
        return s.ties.size();
    }

    int feast(int set, int g) {
        greeting(g);
        act();
        int changed = 0;
        for (int p = 0; p < s.people.size(); p++) {
            if ((set & 1 << p) != 0) {
                changed += s.people.get(p).own == g ? 0 : 1 << p;
                s.people.get(p).own = g;
            }
        }
        return changed;
    }

    int expected(int l, int g) {
        land(l);
        greeting(g);
        return s.expected(l, g);
    }

    int best(int l) {
        land(l);
        int best = 0;
        for (int g = 31; g >= 0; g--) {
            best = s.expected(l, g) <= s.expected(l, best) ? g : best;
        }
        return best;
    }

    private int greatest(int g) {
        return s.habits.stream().mapToInt(h -> s.costOf(g, h.greeting)).max().orElse(0);
    }

    int safest(boolean cost) {
        int best = 31;
        for (int g = 30; g >= 0; g--) {
            best = greatest(g) <= greatest(best) ? g : best;
        }
        return cost ? greatest(best) : best;
    }

    int odds(int l, int g) {
        land(l);
        greeting(g);
        return s.weight(l) == 0 ? 0 : 10000 * s.weight(l, g) / s.weight(l);
    }

    int from(boolean likely) {
        String text = tapeText();
        if (text.length() > 4 || text.chars().anyMatch(c -> c > 31)) {
            throw new IllegalArgumentException();
        }
        int set = 0;
        int greatest = -1;
        BigInteger[] likeliest = {BigInteger.ZERO, BigInteger.ONE};
        for (int l = 0; l < s.lands; l++) {
            if (s.weight(l) == 0) {
                continue;
            }
            BigInteger up = BigInteger.ONE;
            BigInteger down = BigInteger.ONE;
            for (int i = 0; i < text.length(); i++) {
                up = up.multiply(BigInteger.valueOf(s.weight(l, text.charAt(i))));
                down = down.multiply(BigInteger.valueOf(s.weight(l)));
            }
            set |= up.signum() > 0 ? 1 << l : 0;
            if (up.multiply(likeliest[1]).compareTo(likeliest[0].multiply(down)) > 0) {
                greatest = l;
                likeliest = new BigInteger[] {up, down};
            }
        }
        return likely ? greatest : set;
    }

    int worth() {
        int[] people = new int[6];
        s.people.forEach(p -> people[p.land]++);
        int together = Integer.MAX_VALUE;
        for (int g = 0; g < 32; g++) {
            int all = 0;
            for (int l = 0; l < s.lands; l++) {
                all += people[l] * s.expected(l, g);
            }
            together = Math.min(together, all);
        }
        for (int l = 0; l < s.lands; l++) {
            together -= people[l] * s.expected(l, best(l));
        }
        return together;
    }

    int rests(int p, int q) {
        two(p, q);
        int set = 0;
        int[] own = {s.people.get(p).own, s.people.get(q).own};
        for (int x = 0; x < 2; x++) {
            for (int y = 0; y < 2; y++) {
                int first = s.costOf(own[x], own[1 - y]) + x;
                int firstElse = s.costOf(own[1 - x], own[1 - y]) + 1 - x;
                int second = s.costOf(own[x], own[1 - y]) + y;
                int secondElse = s.costOf(own[x], own[y]) + 1 - y;
                if (first <= firstElse && second <= secondElse) {
                    set |= 1 << x + 2 * y;
                }
            }
        }
        return set;
    }

    int sake(int p, int q, boolean led) {
        two(p, q);
        int a = s.people.get(p).own;
        int b = s.people.get(q).own;
        if (a / 8 != 2 || b / 8 != 2) {
            return -1;
        }
        int x = a % 8 / 2;
        int y = b % 8 / 2;
        for (int n = 0; n < 50; n++) {
            if (x == y) {
                return n;
            }
            int towards = Integer.signum(y - x);
            x += led ? 0 : towards;
            y -= towards;
        }
        return -1;
    }

    int table(int set, int k) {
        List<Integer> guests = new ArrayList<>();
        for (int p = 0; p < s.people.size(); p++) {
            if ((set & 1 << p) != 0) {
                guests.add(p);
            }
        }
        if (guests.size() > 8) {
            return -3;
        }
        List<List<Integer>> orders = new ArrayList<>();
        if (!guests.isEmpty()) {
            orders(new ArrayList<>(guests.subList(0, 1)), guests, orders);
        }
        int least = Integer.MAX_VALUE;
        List<Integer> first = List.of();
        for (List<Integer> o : orders) {
            if (ring(o) < least) {
                least = ring(o);
                first = o;
            }
        }
        if (k == -1) {
            return guests.isEmpty() ? 0 : least;
        }
        return k < 0 || k >= first.size() ? -1 : first.get(k);
    }

    private static void orders(List<Integer> begun, List<Integer> guests, List<List<Integer>> orders) {
        if (begun.size() == guests.size()) {
            orders.add(begun);
        }
        for (int g : guests) {
            if (!begun.contains(g)) {
                List<Integer> longer = new ArrayList<>(begun);
                longer.add(g);
                orders(longer, guests, orders);
            }
        }
    }

    private int ring(List<Integer> order) {
        int n = order.size();
        int cost = 0;
        Set<Integer> neighbours = new LinkedHashSet<>();
        for (int i = 0; i < n; i++) {
            int a = order.get(i);
            int b = order.get((i + 1) % n);
            if (a != b && neighbours.add(Math.min(a, b) * 100 + Math.max(a, b))) {
                cost += s.costOf(s.people.get(a).own, s.people.get(b).own);
            }
        }
        return cost;
    }

    int pairs(boolean left) {
        List<List<Integer>> choices = new ArrayList<>();
        choices(0, 0, new ArrayList<>(), choices);
        int most = choices.stream().mapToInt(List::size).max().orElse(0);
        List<Integer> first = null;
        for (List<Integer> c : choices) {
            if (c.size() == most && (first == null || ahead(c, first))) {
                first = c;
            }
        }
        int set = 0;
        for (Tie t : s.ties) {
            set |= 1 << t.who | 1 << t.whom;
        }
        for (int t : first) {
            set &= ~(1 << s.ties.get(t).who | 1 << s.ties.get(t).whom);
        }
        return left ? set : most;
    }

    private void choices(int from, int busy, List<Integer> taken, List<List<Integer>> choices) {
        choices.add(new ArrayList<>(taken));
        for (int t = from; t < s.ties.size(); t++) {
            int two = 1 << s.ties.get(t).who | 1 << s.ties.get(t).whom;
            if ((busy & two) == 0) {
                taken.add(t);
                choices(t + 1, busy | two, taken, choices);
                taken.remove(taken.size() - 1);
            }
        }
    }

    private static boolean ahead(List<Integer> a, List<Integer> b) {
        for (int i = 0; i < a.size(); i++) {
            if (!a.get(i).equals(b.get(i))) {
                return a.get(i) < b.get(i);
            }
        }
        return false;
    }

    int begins(int rule) {
        number(rule, -1, 2);
        int[] all = new int[3];
        for (Tie t : s.ties) {
            int p = Math.min(t.who, t.whom);
            int q = Math.max(t.who, t.whom);
            int price = s.costOf(s.begins(p, q), s.begins(q, p));
            Person a = s.people.get(p);
            Person b = s.people.get(q);
            all[0] += price * (100 - (b.rank > a.rank ? a : b).bent);
            all[1] += price * (100 - (b.rank < a.rank ? a : b).bent);
            all[2] += price * (100 - b.bent);
        }
        if (rule >= 0) {
            return all[rule];
        }
        return all[0] <= all[1] && all[0] <= all[2] ? 0 : all[1] <= all[2] ? 1 : 2;
    }

    int after(int n, int what) {
        number(n, 0, 60);
        TreeMap<Integer, Integer> tally = new TreeMap<>();
        s.after(s.owns(), n).forEach(g -> tally.merge(g, 1, Integer::sum));
        int most = tally.values().stream().max(Comparator.naturalOrder()).orElse(0);
        switch (what) {
            case 0: return tally.size();
            case 1: return tally.keySet().stream().filter(g -> tally.get(g) == most).findFirst().orElse(-1);
            case 2: return most;
            default: throw new NoSuchElementException();
        }
    }

    int custom(int p, int n) {
        one(p);
        number(n, 0, 60);
        return s.after(s.owns(), n).get(p);
    }

    int still() {
        for (int n = 0; n <= 60; n++) {
            if (s.after(s.owns(), n).equals(s.after(s.owns(), n + 1))) {
                return n;
            }
        }
        return -1;
    }

    int told(int g, int n) {
        greeting(g);
        number(n, 0, 60);
        int least = all();
        for (int set = 0; set <= all(); set++) {
            List<Integer> owns = s.owns();
            for (int p = 0; p < owns.size(); p++) {
                if ((set & 1 << p) != 0) {
                    owns.set(p, g);
                }
            }
            boolean fewer = Integer.bitCount(set) < Integer.bitCount(least);
            if (fewer && s.after(owns, n).stream().allMatch(o -> o == g)) {
                least = set;
            }
        }
        return least;
    }

    int colds(int waving, int n) {
        number(n, 0, 20);
        return s.colds(waving, n);
    }

    int spared(int p, int n) {
        one(p);
        number(n, 0, 20);
        if (s.people.get(p).cold) {
            return -2;
        }
        int least = all() - (1 << p);
        for (int set = 0; set <= all(); set++) {
            boolean fewer = Integer.bitCount(set) < Integer.bitCount(least);
            if (fewer && (set & 1 << p) == 0 && (s.colds(set, n) & 1 << p) == 0) {
                least = set;
            }
        }
        return least;
    }

    int changed(boolean often) {
        int set = 0;
        int times = 0;
        for (int p = 0; p < s.people.size(); p++) {
            for (int q = 0; q < s.people.size(); q++) {
                int last = -1;
                for (int[] row : s.log) {
                    boolean isWho = row[1] == p && row[2] == q;
                    boolean isWhom = row[2] == p && row[1] == q;
                    if (isWho || isWhom) {
                        int began = isWho ? row[3] : row[4];
                        if (last >= 0 && last != began) {
                            set |= 1 << p;
                            times++;
                        }
                        last = began;
                    }
                }
            }
        }
        return often ? times : set;
    }

    int trial(int n, int what) {
        number(n, 0, 20);
        State then = s.copy();
        int cost = then.rounds(n);
        switch (what) {
            case 0: return cost;
            case 1: return then.yielded - s.yielded;
            case 2: return new TreeSet<>(then.owns()).size();
            case 3: return then.colds();
            default: throw new NoSuchElementException();
        }
    }

    int span(int n, boolean most) {
        number(n, 0, 20);
        List<Integer> costs = new ArrayList<>();
        for (int seed = 1; seed <= 6; seed++) {
            State then = s.copy();
            then.seed = seed;
            costs.add(then.rounds(n));
        }
        costs.sort(Comparator.naturalOrder());
        return most ? costs.get(5) : costs.get(0);
    }

    int log(int ago, int what) {
        if (what < 0 || what > 7) {
            throw new NoSuchElementException();
        }
        return ago < 0 || ago >= s.log.size() ? -1 : s.log.get(ago)[what];
    }

    int seed(int n) {
        int was = s.seed;
        s.seed = n;
        return was;
    }

    boolean undo() {
        if (past.isEmpty()) {
            return false;
        }
        s = past.removeLast();
        return true;
    }

    void image() {
        image = s.copy();
    }

    boolean back() {
        if (image == null) {
            return false;
        }
        s = image.copy();
        past.clear();
        return true;
    }

    int count(int what) {
        int[] counts = {s.lands, s.habits.size(), s.people.size(), s.ties.size(), s.texts, s.law == null ? -1 : s.law.size(),
            s.round, s.meetings, s.cost, s.yielded, s.minutes, s.colds(), s.log.size(), past.size(), s.stomach, s.air, s.noses};
        return what < 0 || what >= counts.length ? -1 : counts[what];
    }
}
