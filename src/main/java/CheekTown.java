import java.util.Arrays;
import java.util.NoSuchElementException;

/** Towns in which all greet as they are used to: the answers are those of ../shared/DOC.md. */
public final class CheekTown {
    public static final int NONE = -1;

    private static final int MOST_BYTES = 400;
    private static final int BYTES_FED = 20;
    private static final int MOST_TEXTS = 12;
    private static final int MOST_TOWN_LINES = 14;
    private static final int MOST_PEOPLE = 10;
    private static final int MOST_TIES = 24;
    private static final int MOST_ACTS = 12;
    private static final int GREETINGS = 32;
    private static final int MOST_ROUNDS = 50;
    private static final int MOST_TRIED_ROUNDS = 20;
    private static final int MOST_YEARS = 60;
    private static final int MOST_SEEN = 4;
    private static final int RULES = 3;
    private static final int SPAN_SEEDS = 6;
    private static final int HAS_ONE_NOW = -2;
    private static final int TOO_MANY = -3;
    /** More than any costs come to. */
    private static final int ABOVE_ALL = 1000000000;

    private final int[] tape = new int[MOST_BYTES];
    private int tapeLength;
    private int faultAt = NONE;
    private final Town now = new Town();
    private final Town kept = new Town();
    private boolean imageKept;
    private final Town[] past = new Town[MOST_ACTS];
    private int actsKept;
    /** Whatever is tried out goes on here, so that nothing of it stays. */
    private final Town draft = new Town();
    private final Years years = new Years();
    private final Seating seating = new Seating();

    public CheekTown() {
        for (int i = 0; i < MOST_ACTS; i++) {
            past[i] = new Town();
        }
    }

    // ---- the tape and the texts ----

    public int feed(int a, int b, int c, int d, int e) {
        if (tapeLength > MOST_BYTES - BYTES_FED) {
            return NONE;
        }
        feedNumber(a);
        feedNumber(b);
        feedNumber(c);
        feedNumber(d);
        feedNumber(e);
        return tapeLength;
    }

    private void feedNumber(int number) {
        for (int shift = 24; shift >= 0 && tapeLength < MOST_BYTES; shift -= 8) {
            tape[tapeLength] = (number >>> shift) & 255;
            tapeLength++;
        }
    }

    public boolean end(int n) {
        if (n < 0 || n > tapeLength) {
            return false;
        }
        tapeLength = n;
        return true;
    }

    private int useTapeUp() {
        int length = tapeLength;
        tapeLength = 0;
        return length;
    }

    public int town() throws IllegalArgumentException, UnsupportedOperationException {
        int length = useTapeUp();
        draft.copyFrom(now);
        TownReader reader = new TownReader(tape, length, draft);
        boolean right = reader.readLines(MOST_TOWN_LINES);
        faultAt = reader.faultAt;
        if (!right) {
            throw new IllegalArgumentException("the text of the town is wrong");
        }
        if (now.texts >= MOST_TEXTS) {
            throw new UnsupportedOperationException("there are 12 texts");
        }
        draft.texts++;
        now.copyFrom(draft);
        actsKept = 0;
        return now.texts;
    }

    public int law() throws IllegalArgumentException {
        int length = useTapeUp();
        Law told = new Law(length);
        LawReader reader = new LawReader(tape, length, told);
        boolean right = reader.readLines(Law.MOST_LINES);
        faultAt = reader.faultAt;
        if (!right) {
            throw new IllegalArgumentException("the text of the law is wrong");
        }
        now.law = told;
        actsKept = 0;
        return told.lines;
    }

    public int fault() {
        return faultAt;
    }

    // ---- what numbers must be ----

    private static void needGreeting(int greeting) {
        if (greeting < 0 || greeting >= GREETINGS) {
            throw new IndexOutOfBoundsException("there is no such greeting");
        }
    }

    private void needLand(int land) {
        if (land < 0 || land >= now.lands.landCount) {
            throw new IndexOutOfBoundsException("there is no such land");
        }
    }

    private void needPerson(int person) {
        if (person < 0 || person >= now.peopleCount) {
            throw new IndexOutOfBoundsException("there is no such person");
        }
    }

    private void needTwo(int person, int other) {
        needPerson(person);
        needPerson(other);
        if (person == other) {
            throw new IllegalArgumentException("both are one");
        }
    }

    private void needTie(int tie) {
        if (tie < 0 || tie >= now.tieCount) {
            throw new IndexOutOfBoundsException("there is no such tie");
        }
    }

    private static void needNumber(int n, int least, int most) {
        if (n < least || n > most) {
            throw new IllegalArgumentException("the number is none");
        }
    }

    private static void needWhat(int what, int most) {
        if (what < 0 || what > most) {
            throw new NoSuchElementException("there is no such what");
        }
    }

    // ---- how all is ----

    public int cost(int greeting, int other) throws IndexOutOfBoundsException {
        needGreeting(greeting);
        needGreeting(other);
        return now.lands.manners.costOf(greeting, other);
    }

    public int habit(int land, int greeting) throws IndexOutOfBoundsException {
        needLand(land);
        needGreeting(greeting);
        return now.lands.weightOf(land, greeting);
    }

    public int person(int person, int what) throws IndexOutOfBoundsException, NoSuchElementException {
        needPerson(person);
        needWhat(what, 6);
        Person one = now.people[person];
        switch (what) {
            case 0: return one.land;
            case 1: return one.own;
            case 2: return one.rank;
            case 3: return one.bent;
            case 4: return one.hasCold ? 1 : 0;
            case 5: return one.tiedTo;
            default: return one.meetings();
        }
    }

    public int saw(int person, int other, boolean met) throws IndexOutOfBoundsException, IllegalArgumentException {
        needTwo(person, other);
        Person one = now.people[person];
        return met ? one.metWith[other] : one.sawOf[other];
    }

    public int tie(int tie, boolean other) throws IndexOutOfBoundsException {
        needTie(tie);
        return other ? now.tieWhom[tie] : now.tieWho[tie];
    }

    public int will(int person, int other) throws IndexOutOfBoundsException, IllegalArgumentException {
        needTwo(person, other);
        return now.greetingFor(person, other);
    }

    // ---- acts ----

    private void rememberAct() {
        if (actsKept == MOST_ACTS) {
            Town oldest = past[0];
            for (int i = 1; i < MOST_ACTS; i++) {
                past[i - 1] = past[i];
            }
            past[MOST_ACTS - 1] = oldest;
            actsKept = MOST_ACTS - 1;
        }
        past[actsKept].copyFrom(now);
        actsKept++;
    }

    public int meet(int person, int other) throws IndexOutOfBoundsException, IllegalArgumentException {
        needTwo(person, other);
        rememberAct();
        return now.meetOnce(person, other);
    }

    public int rounds(int n) throws IllegalArgumentException {
        needNumber(n, 1, MOST_ROUNDS);
        rememberAct();
        return now.passRounds(n);
    }

    public int own(int person, int greeting) throws IndexOutOfBoundsException {
        needPerson(person);
        needGreeting(greeting);
        rememberAct();
        int was = now.people[person].own;
        now.people[person].own = greeting;
        return was;
    }

    public boolean cold(int person, boolean comes) throws IndexOutOfBoundsException {
        needPerson(person);
        rememberAct();
        boolean had = now.people[person].hasCold;
        now.people[person].hasCold = comes;
        return had;
    }

    public int ties(int person, int other) throws IndexOutOfBoundsException, IllegalArgumentException, IllegalStateException, UnsupportedOperationException {
        needTwo(person, other);
        if (now.areTied(person, other)) {
            throw new IllegalStateException("they are tied");
        }
        if (now.tieCount >= MOST_TIES) {
            throw new UnsupportedOperationException("there are 24 ties");
        }
        rememberAct();
        now.addTie(person, other);
        return now.tieCount - 1;
    }

    public int cut(int tie) throws IndexOutOfBoundsException {
        needTie(tie);
        rememberAct();
        now.removeTie(tie);
        return now.tieCount;
    }

    public int feast(int people, int greeting) throws IndexOutOfBoundsException {
        needGreeting(greeting);
        rememberAct();
        int changed = 0;
        for (int i = 0; i < now.peopleCount; i++) {
            if (isIn(people, i) && now.people[i].own != greeting) {
                now.people[i].own = greeting;
                changed |= 1 << i;
            }
        }
        return changed;
    }

    private static boolean isIn(int set, int person) {
        return (set >> person & 1) == 1;
    }

    // ---- lands ----

    public int expected(int land, int greeting) throws IndexOutOfBoundsException {
        needLand(land);
        needGreeting(greeting);
        return now.lands.expectedOf(land, greeting);
    }

    public int best(int land) throws IndexOutOfBoundsException {
        needLand(land);
        return now.lands.bestIn(land);
    }

    public int safest(boolean cost) {
        int greeting = now.lands.safestOfAll();
        return cost ? now.lands.greatestCostOf(greeting) : greeting;
    }

    public int odds(int land, int greeting) throws IndexOutOfBoundsException {
        needLand(land);
        needGreeting(greeting);
        int all = now.lands.allWeightIn(land);
        return all <= 0 ? 0 : now.lands.weightOf(land, greeting) * 10000 / all;
    }

    public int from(boolean likely) throws IllegalArgumentException {
        int seen = useTapeUp();
        if (seen > MOST_SEEN) {
            throw new IllegalArgumentException("these are more than 4 greetings");
        }
        for (int i = 0; i < seen; i++) {
            needNumber(tape[i], 0, GREETINGS - 1);
        }
        return likely ? likeliestLand(seen) : likelyLands(seen);
    }

    private int likelyLands(int seen) {
        int set = 0;
        for (int land = 0; land < now.lands.landCount; land++) {
            if (now.lands.allWeightIn(land) > 0 && weightProduct(land, seen) > 0) {
                set |= 1 << land;
            }
        }
        return set;
    }

    private int likeliestLand(int seen) {
        int likeliest = NONE;
        long weights = 0;
        long all = 1;
        for (int land = 0; land < now.lands.landCount; land++) {
            long landWeights = weightProduct(land, seen);
            long landAll = allWeightProduct(land, seen);
            boolean hasHabits = now.lands.allWeightIn(land) > 0;
            // at most 216 to the 8th on each side, which a long still holds
            if (hasHabits && landWeights * all > weights * landAll) {
                likeliest = land;
                weights = landWeights;
                all = landAll;
            }
        }
        return likeliest;
    }

    private long weightProduct(int land, int seen) {
        long product = 1;
        for (int i = 0; i < seen && i < MOST_SEEN; i++) {
            product *= now.lands.weightOf(land, tape[i]);
        }
        return product;
    }

    private long allWeightProduct(int land, int seen) {
        long product = 1;
        for (int i = 0; i < seen && i < MOST_SEEN; i++) {
            product *= now.lands.allWeightIn(land);
        }
        return product;
    }

    public int worth() {
        int together = ABOVE_ALL;
        for (int greeting = 0; greeting < GREETINGS; greeting++) {
            together = Math.min(together, now.expectedByAll(greeting));
        }
        int apart = 0;
        for (int i = 0; i < now.peopleCount; i++) {
            int land = now.people[i].land;
            apart += now.lands.expectedOf(land, now.lands.bestIn(land));
        }
        return together - apart;
    }

    // ---- two ----

    public int rests(int person, int other) throws IndexOutOfBoundsException, IllegalArgumentException {
        needTwo(person, other);
        int apart = now.costOfOwns(person, other);
        int set = 0;
        for (int pair = 0; pair < 4; pair++) {
            boolean firstTakes = (pair & 1) != 0;
            boolean secondTakes = (pair & 2) != 0;
            if (isContent(apart, firstTakes, secondTakes) && isContent(apart, secondTakes, firstTakes)) {
                set |= 1 << pair;
            }
        }
        return set;
    }

    /** The two do alike just if one alone takes the other's greeting. */
    private static boolean isContent(int apart, boolean takes, boolean otherTakes) {
        int asItIs = (takes != otherTakes ? 0 : apart) + (takes ? 1 : 0);
        int otherwise = (takes == otherTakes ? 0 : apart) + (takes ? 0 : 1);
        return asItIs <= otherwise;
    }

    public int sake(int person, int other, boolean led) throws IndexOutOfBoundsException, IllegalArgumentException {
        needTwo(person, other);
        int first = now.people[person].own;
        int second = now.people[other].own;
        if (Manners.kindOf(first) != Manners.KISS || Manners.kindOf(second) != Manners.KISS) {
            return NONE;
        }
        int between = Math.abs(Manners.countOf(first) - Manners.countOf(second));
        if (led) {
            return between;
        }
        // next to one another they change places for ever
        return between % 2 == 0 ? between / 2 : NONE;
    }

    // ---- all at once ----

    public int table(int people, int k) {
        int guests = people & now.everybody();
        if (Integer.bitCount(guests) > Seating.MOST_SEATS) {
            return TOO_MANY;
        }
        seating.seatAll(now, guests);
        return k == NONE ? seating.leastCost : seating.guestAt(k);
    }

    public int pairs(boolean left) {
        int free = now.peopleTied();
        int most = mostPairs(now, 0, free);
        if (!left) {
            return most;
        }
        for (int tie = 0; tie < now.tieCount; tie++) {
            int two = 1 << now.tieWho[tie] | 1 << now.tieWhom[tie];
            if ((free & two) == two && mostPairs(now, 0, free & ~two) == most - 1) {
                free &= ~two;
                most--;
            }
        }
        return free;
    }

    /** Among those who are free, from one on; each level goes on to the next one: at most 10 are. */
    private static int mostPairs(Town town, int one, int free) {
        if (one < 0 || one >= town.peopleCount) {
            return 0;
        }
        int most = mostPairs(town, one + 1, free);
        if (!isIn(free, one)) {
            return most;
        }
        int partners = town.people[one].tiedTo & free;
        for (int other = one + 1; other < town.peopleCount; other++) {
            if (isIn(partners, other)) {
                most = Math.max(most, 1 + mostPairs(town, one + 1, free & ~(1 << other)));
            }
        }
        return most;
    }

    public int begins(int rule) throws IllegalArgumentException {
        needNumber(rule, NONE, RULES - 1);
        if (rule != NONE) {
            return now.costByRule(rule);
        }
        int least = 0;
        for (int i = 1; i < RULES; i++) {
            if (now.costByRule(i) < now.costByRule(least)) {
                least = i;
            }
        }
        return least;
    }

    // ---- years ----

    public int after(int n, int what) throws IllegalArgumentException, NoSuchElementException {
        needNumber(n, 0, MOST_YEARS);
        needWhat(what, 2);
        years.startFrom(now);
        years.passYears(n);
        if (what == 0) {
            return years.kinds();
        }
        int common = years.mostCommon();
        return what == 1 ? common : years.howManyHave(common);
    }

    public int custom(int person, int n) throws IndexOutOfBoundsException, IllegalArgumentException {
        needPerson(person);
        needNumber(n, 0, MOST_YEARS);
        years.startFrom(now);
        years.passYears(n);
        return years.ownOf(person);
    }

    public int still() {
        years.startFrom(now);
        for (int year = 0; year <= MOST_YEARS; year++) {
            if (!years.passYear()) {
                return year;
            }
        }
        return NONE;
    }

    public int told(int greeting, int n) throws IndexOutOfBoundsException, IllegalArgumentException {
        needGreeting(greeting);
        needNumber(n, 0, MOST_YEARS);
        int everybody = now.everybody();
        for (int size = 0; size < now.peopleCount; size++) {
            for (int set = 0; set < everybody; set++) {
                if (Integer.bitCount(set) == size && wins(greeting, n, set)) {
                    return set;
                }
            }
        }
        return everybody;
    }

    private boolean wins(int greeting, int n, int set) {
        years.startFrom(now);
        years.tell(set, greeting);
        years.passYears(n);
        return years.howManyHave(greeting) == now.peopleCount;
    }

    // ---- colds ----

    public int colds(int waving, int n) throws IllegalArgumentException {
        needNumber(n, 0, MOST_TRIED_ROUNDS);
        return now.coldsAfter(waving, n);
    }

    public int spared(int person, int n) throws IndexOutOfBoundsException, IllegalArgumentException {
        needPerson(person);
        needNumber(n, 0, MOST_TRIED_ROUNDS);
        if (now.people[person].hasCold) {
            return HAS_ONE_NOW;
        }
        int others = now.everybody() & ~(1 << person);
        for (int size = 0; size < now.peopleCount; size++) {
            for (int set = 0; set < others; set++) {
                boolean fits = (set & ~others) == 0 && Integer.bitCount(set) == size;
                if (fits && !isIn(now.coldsAfter(set, n), person)) {
                    return set;
                }
            }
        }
        return others;
    }

    // ---- what was, and what would be ----

    public int changed(boolean often) {
        int set = 0;
        int times = 0;
        for (int ago = 0; ago < now.log.rows; ago++) {
            int earlier = now.log.timeBefore(ago);
            if (now.log.beganUnlike(ago, earlier, Log.BEGAN)) {
                set |= 1 << now.log.cellOf(ago, Log.WHO);
                times++;
            }
            if (now.log.beganUnlike(ago, earlier, Log.BEGAN_BACK)) {
                set |= 1 << now.log.cellOf(ago, Log.WHOM);
                times++;
            }
        }
        return often ? times : set;
    }

    public int trial(int n, int what) throws IllegalArgumentException, NoSuchElementException {
        needNumber(n, 0, MOST_TRIED_ROUNDS);
        needWhat(what, 3);
        draft.copyFrom(now);
        int costs = draft.passRounds(n);
        switch (what) {
            case 0: return costs;
            case 1: return draft.yields - now.yields;
            case 2:
                years.startFrom(draft);
                return years.kinds();
            default: return draft.peopleWithCold();
        }
    }

    public int span(int n, boolean most) throws IllegalArgumentException {
        needNumber(n, 0, MOST_TRIED_ROUNDS);
        int fewest = ABOVE_ALL;
        int greatest = 0;
        for (int seed = 1; seed <= SPAN_SEEDS; seed++) {
            draft.copyFrom(now);
            draft.seed = seed;
            int costs = draft.passRounds(n);
            fewest = Math.min(fewest, costs);
            greatest = Math.max(greatest, costs);
        }
        return most ? greatest : fewest;
    }

    public int log(int ago, int what) throws NoSuchElementException {
        needWhat(what, Log.CELLS - 1);
        return now.log.cellOf(ago, what);
    }

    public int seed(int n) {
        int was = now.seed;
        now.seed = n;
        return was;
    }

    public boolean undo() {
        if (actsKept <= 0) {
            return false;
        }
        actsKept--;
        now.copyFrom(past[actsKept]);
        return true;
    }

    public void image() {
        kept.copyFrom(now);
        imageKept = true;
    }

    public boolean back() {
        if (!imageKept) {
            return false;
        }
        now.copyFrom(kept);
        actsKept = 0;
        return true;
    }

    public int count(int what) {
        switch (what) {
            case 0: return now.lands.landCount;
            case 1: return now.lands.habitCount;
            case 2: return now.peopleCount;
            case 3: return now.tieCount;
            case 4: return now.texts;
            case 5: return now.law == null ? NONE : now.law.lines;
            case 6: return now.round;
            case 7: return now.meetings;
            case 8: return now.costs;
            case 9: return now.yields;
            case 10: return now.minutes;
            case 11: return now.peopleWithCold();
            case 12: return now.log.rows;
            case 13: return actsKept;
            case 14: return now.lands.manners.stomach;
            case 15: return now.lands.manners.air;
            case 16: return now.lands.manners.noses;
            default: return NONE;
        }
    }

    /** Greetings by their codes, and what it costs that two are unlike. */
    private static final class Manners {
        static final int WAVE = 0;
        static final int HAND = 1;
        static final int KISS = 2;
        static final int EMBRACE = 3;
        static final int MOST_KISSES = 4;
        static final int MOST_PRICE = 99;

        int stomach = 10;
        int air = 2;
        int noses = 5;

        static int codeOf(int kind, int times, int side) {
            return 8 * kind + 2 * (times - 1) + side;
        }

        static int kindOf(int greeting) {
            return greeting >> 3;
        }

        static int countOf(int greeting) {
            return (greeting >> 1 & 3) + 1;
        }

        static int sideOf(int greeting) {
            return greeting & 1;
        }

        int costOf(int greeting, int other) {
            if (kindOf(greeting) != kindOf(other)) {
                return stomach;
            }
            if (kindOf(greeting) != KISS) {
                return 0;
            }
            int missed = Math.abs(countOf(greeting) - countOf(other));
            return air * missed + (sideOf(greeting) == sideOf(other) ? 0 : noses);
        }

        void copyFrom(Manners other) {
            stomach = other.stomach;
            air = other.air;
            noses = other.noses;
        }
    }

    /** The lands, all their habits in the order in which they were told, and what it costs to miss one another. */
    private static final class Lands {
        static final int MOST_LANDS = 6;
        static final int MOST_HABITS = 24;
        static final int MOST_WEIGHT = 9;

        final Manners manners = new Manners();
        int landCount;
        int habitCount;
        private final int[] habitLand = new int[MOST_HABITS];
        private final int[] habitGreeting = new int[MOST_HABITS];
        private final int[] habitWeight = new int[MOST_HABITS];

        void copyFrom(Lands other) {
            manners.copyFrom(other.manners);
            landCount = other.landCount;
            habitCount = other.habitCount;
            System.arraycopy(other.habitLand, 0, habitLand, 0, MOST_HABITS);
            System.arraycopy(other.habitGreeting, 0, habitGreeting, 0, MOST_HABITS);
            System.arraycopy(other.habitWeight, 0, habitWeight, 0, MOST_HABITS);
        }

        void addHabit(int land, int greeting, int weight) {
            if (habitCount < MOST_HABITS) {
                habitLand[habitCount] = land;
                habitGreeting[habitCount] = greeting;
                habitWeight[habitCount] = weight;
                habitCount++;
            }
        }

        int weightOf(int land, int greeting) {
            int weight = 0;
            for (int i = 0; i < habitCount && i < MOST_HABITS; i++) {
                if (habitLand[i] == land && habitGreeting[i] == greeting) {
                    weight += habitWeight[i];
                }
            }
            return weight;
        }

        int allWeightIn(int land) {
            int weight = 0;
            for (int i = 0; i < habitCount && i < MOST_HABITS; i++) {
                if (habitLand[i] == land) {
                    weight += habitWeight[i];
                }
            }
            return weight;
        }

        int expectedOf(int land, int greeting) {
            int together = 0;
            for (int i = 0; i < habitCount && i < MOST_HABITS; i++) {
                if (habitLand[i] == land) {
                    together += habitWeight[i] * manners.costOf(greeting, habitGreeting[i]);
                }
            }
            return together;
        }

        int bestIn(int land) {
            int least = 0;
            int leastCost = expectedOf(land, 0);
            for (int greeting = 1; greeting < GREETINGS; greeting++) {
                int price = expectedOf(land, greeting);
                if (price < leastCost) {
                    least = greeting;
                    leastCost = price;
                }
            }
            return least;
        }

        int greatestCostOf(int greeting) {
            int greatest = 0;
            for (int i = 0; i < habitCount && i < MOST_HABITS; i++) {
                greatest = Math.max(greatest, manners.costOf(greeting, habitGreeting[i]));
            }
            return greatest;
        }

        int safestOfAll() {
            int least = 0;
            int leastCost = greatestCostOf(0);
            for (int greeting = 1; greeting < GREETINGS; greeting++) {
                int price = greatestCostOf(greeting);
                if (price < leastCost) {
                    least = greeting;
                    leastCost = price;
                }
            }
            return least;
        }
    }

    /** One of the people, with what one knows of each other one. */
    private static final class Person {
        static final int MOST_RANK = 9;
        static final int MOST_BENT = 100;

        int land;
        int own;
        int rank;
        int bent;
        boolean hasCold;
        int tiedTo;
        private int latest = NONE;
        private int latestButOne = NONE;
        final int[] metWith = new int[MOST_PEOPLE];
        final int[] sawOf = new int[MOST_PEOPLE];

        Person() {
            Arrays.fill(sawOf, NONE);
        }

        void copyFrom(Person other) {
            land = other.land;
            own = other.own;
            rank = other.rank;
            bent = other.bent;
            hasCold = other.hasCold;
            tiedTo = other.tiedTo;
            latest = other.latest;
            latestButOne = other.latestButOne;
            System.arraycopy(other.metWith, 0, metWith, 0, MOST_PEOPLE);
            System.arraycopy(other.sawOf, 0, sawOf, 0, MOST_PEOPLE);
        }

        int meetings() {
            int all = 0;
            for (int i = 0; i < MOST_PEOPLE; i++) {
                all += metWith[i];
            }
            return all;
        }

        /** A greeting seen three times on end becomes one's own. */
        void learn(int whom, int greeting) {
            metWith[whom]++;
            sawOf[whom] = greeting;
            if (greeting == latest && greeting == latestButOne) {
                own = greeting;
            }
            latestButOne = latest;
            latest = greeting;
        }
    }

    /** The latest meetings, the older ones of them written over by newer ones. */
    private static final class Log {
        static final int MOST_ROWS = 60;
        static final int CELLS = 8;
        static final int ROUND = 0;
        static final int WHO = 1;
        static final int WHOM = 2;
        static final int BEGAN = 3;
        static final int BEGAN_BACK = 4;
        static final int DID = 5;
        static final int DID_BACK = 6;
        static final int COST = 7;

        int rows;
        private int newest;
        private final int[] cells = new int[MOST_ROWS * CELLS];

        void copyFrom(Log other) {
            rows = other.rows;
            newest = other.newest;
            System.arraycopy(other.cells, 0, cells, 0, MOST_ROWS * CELLS);
        }

        void openRow() {
            newest = (newest + 1) % MOST_ROWS;
            rows = Math.min(rows + 1, MOST_ROWS);
        }

        void put(int what, int value) {
            cells[newest * CELLS + what] = value;
        }

        int cellOf(int ago, int what) {
            if (ago < 0 || ago >= rows) {
                return NONE;
            }
            int row = Math.floorMod(newest - ago, MOST_ROWS);
            return cells[row * CELLS + what];
        }

        /** How long ago the same two met the time before; NONE if the log tells of no such time. */
        int timeBefore(int ago) {
            for (int earlier = ago + 1; earlier < rows; earlier++) {
                if (cellOf(earlier, WHO) == cellOf(ago, WHO) && cellOf(earlier, WHOM) == cellOf(ago, WHOM)) {
                    return earlier;
                }
            }
            return NONE;
        }

        boolean beganUnlike(int ago, int earlier, int what) {
            return earlier != NONE && cellOf(ago, what) != cellOf(earlier, what);
        }
    }

    /** A law as it was read: of each line a greeting and the steps of its condition, behind what they work on. */
    private static final class Law {
        static final int MOST_LINES = 12;
        static final int MOST_NUMBER = 999;
        static final int NUMBER = 0;
        static final int WHO = 1;
        static final int WHOM = 2;
        static final int RANK = 3;
        static final int THEIRS = 4;
        static final int MET = 5;
        static final int ROUND = 6;
        static final int SAME = 7;
        static final int COLD = 8;
        static final int NOT = 9;
        static final int PLUS = 10;
        static final int LESS = 11;
        static final int MORE = 12;
        static final int AND = 13;
        static final int OR = 14;
        /** More than conditions 6 deep ever hold open. */
        private static final int MOST_OPEN = 32;

        int lines;
        private final int[] greetings = new int[MOST_LINES];
        private final int[] stepEnds = new int[MOST_LINES];
        private final int[] steps;
        private final int[] numbers;
        private int stepCount;
        private final int[] open = new int[MOST_OPEN];

        /** No step is without a byte of its own in the text. */
        Law(int textLength) {
            steps = new int[Math.max(textLength, 0)];
            numbers = new int[Math.max(textLength, 0)];
        }

        void addStep(int step, int number) {
            if (stepCount < steps.length && stepCount < numbers.length) {
                steps[stepCount] = step;
                numbers[stepCount] = number;
                stepCount++;
            }
        }

        void addLine(int greeting) {
            if (lines < MOST_LINES) {
                greetings[lines] = greeting;
                stepEnds[lines] = stepCount;
                lines++;
            }
        }

        /** NONE, if no line holds. */
        int greetingFor(Town town, int who, int whom) {
            int start = 0;
            for (int line = 0; line < lines && line < MOST_LINES; line++) {
                if (holds(start, stepEnds[line], town, who, whom)) {
                    return greetings[line];
                }
                start = stepEnds[line];
            }
            return NONE;
        }

        private boolean holds(int start, int end, Town town, int who, int whom) {
            if (start == end) {
                return true;
            }
            int top = 0;
            for (int i = start; i < end && i < steps.length && i < numbers.length; i++) {
                int step = steps[i];
                if (step < NOT && top < MOST_OPEN) {
                    open[top] = step == NUMBER ? numbers[i] : valueOf(step, town, who, whom);
                    top++;
                } else if (step == NOT && top >= 1) {
                    open[top - 1] = 1 - open[top - 1];
                } else if (step > NOT && top >= 2) {
                    top--;
                    open[top - 1] = joined(step, open[top - 1], open[top]);
                }
            }
            return open[0] != 0;
        }

        private static int valueOf(int step, Town town, int who, int whom) {
            Person one = town.people[who];
            Person other = town.people[whom];
            switch (step) {
                case WHO: return who;
                case WHOM: return whom;
                case RANK: return one.rank;
                case THEIRS: return other.rank;
                case MET: return one.metWith[whom];
                case ROUND: return town.round;
                case SAME: return one.land == other.land ? 1 : 0;
                default: return one.hasCold || other.hasCold ? 1 : 0;
            }
        }

        private static int joined(int step, int left, int right) {
            switch (step) {
                case PLUS: return left + right;
                case LESS: return left < right ? 1 : 0;
                case MORE: return left > right ? 1 : 0;
                case AND: return left & right;
                default: return left | right;
            }
        }
    }

    /** All that an image keeps: who there is, and how all has gone so far. */
    private static final class Town {
        final Lands lands = new Lands();
        final Person[] people = new Person[MOST_PEOPLE];
        int peopleCount;
        final int[] tieWho = new int[MOST_TIES];
        final int[] tieWhom = new int[MOST_TIES];
        int tieCount;
        /** Never changed once it is read, so that towns may share it; null without one. */
        Law law;
        int texts;
        int seed = 1;
        int round;
        int meetings;
        int costs;
        int yields;
        int minutes;
        final Log log = new Log();

        Town() {
            for (int i = 0; i < MOST_PEOPLE; i++) {
                people[i] = new Person();
            }
        }

        void copyFrom(Town other) {
            lands.copyFrom(other.lands);
            for (int i = 0; i < MOST_PEOPLE; i++) {
                people[i].copyFrom(other.people[i]);
            }
            peopleCount = other.peopleCount;
            System.arraycopy(other.tieWho, 0, tieWho, 0, MOST_TIES);
            System.arraycopy(other.tieWhom, 0, tieWhom, 0, MOST_TIES);
            tieCount = other.tieCount;
            law = other.law;
            texts = other.texts;
            seed = other.seed;
            round = other.round;
            meetings = other.meetings;
            costs = other.costs;
            yields = other.yields;
            minutes = other.minutes;
            log.copyFrom(other.log);
        }

        void addPerson(int land, int greeting, int rank, int bent) {
            if (peopleCount < MOST_PEOPLE) {
                Person one = people[peopleCount];
                one.land = land;
                one.own = greeting;
                one.rank = rank;
                one.bent = bent;
                peopleCount++;
            }
        }

        boolean areTied(int person, int other) {
            return isIn(people[person].tiedTo, other);
        }

        void addTie(int who, int whom) {
            if (tieCount < MOST_TIES) {
                tieWho[tieCount] = who;
                tieWhom[tieCount] = whom;
                tieCount++;
                people[who].tiedTo |= 1 << whom;
                people[whom].tiedTo |= 1 << who;
            }
        }

        void removeTie(int tie) {
            int who = tieWho[tie];
            int whom = tieWhom[tie];
            people[who].tiedTo &= ~(1 << whom);
            people[whom].tiedTo &= ~(1 << who);
            for (int i = tie + 1; i < tieCount; i++) {
                tieWho[i - 1] = tieWho[i];
                tieWhom[i - 1] = tieWhom[i];
            }
            tieCount--;
        }

        int everybody() {
            return (1 << peopleCount) - 1;
        }

        int peopleTied() {
            int set = 0;
            for (int i = 0; i < peopleCount; i++) {
                set |= people[i].tiedTo;
            }
            return set;
        }

        int peopleWithCold() {
            int set = 0;
            for (int i = 0; i < peopleCount; i++) {
                set |= people[i].hasCold ? 1 << i : 0;
            }
            return set;
        }

        int greetingFor(int who, int whom) {
            int lawful = law == null ? NONE : law.greetingFor(this, who, whom);
            if (lawful != NONE) {
                return lawful;
            }
            int seen = people[who].sawOf[whom];
            return seen != NONE ? seen : people[who].own;
        }

        int passRounds(int n) {
            int together = 0;
            for (int i = 0; i < n; i++) {
                for (int tie = 0; tie < tieCount; tie++) {
                    together += meetOnce(tieWho[tie], tieWhom[tie]);
                }
                round++;
            }
            return together;
        }

        int meetOnce(int person, int other) {
            int who = Math.min(person, other);
            int whom = Math.max(person, other);
            int began = greetingFor(who, whom);
            int beganBack = greetingFor(whom, who);
            int price = lands.manners.costOf(began, beganBack);
            int yielder = price > 0 ? whoYields(who, whom) : NONE;
            int did = yielder == who ? beganBack : began;
            int didBack = yielder == whom ? began : beganBack;
            if (yielder != NONE) {
                price /= 2;
                yields++;
            }
            writeDown(who, whom, price);
            log.put(Log.BEGAN, began);
            log.put(Log.BEGAN_BACK, beganBack);
            log.put(Log.DID, did);
            log.put(Log.DID_BACK, didBack);
            people[who].learn(whom, didBack);
            people[whom].learn(who, did);
            passColdOn(people[who], people[whom], did, didBack);
            minutes += Math.max(Manners.countOf(did), Manners.countOf(didBack));
            return price;
        }

        private void writeDown(int who, int whom, int price) {
            meetings++;
            costs += price;
            log.openRow();
            log.put(Log.ROUND, round);
            log.put(Log.WHO, who);
            log.put(Log.WHOM, whom);
            log.put(Log.COST, price);
        }

        private static void passColdOn(Person one, Person other, int did, int didBack) {
            boolean waved = Manners.kindOf(did) == Manners.WAVE || Manners.kindOf(didBack) == Manners.WAVE;
            if (!waved && (one.hasCold || other.hasCold)) {
                one.hasCold = true;
                other.hasCold = true;
            }
        }

        /** Of two, who the lesser number; the second one is asked (and drawn for) only if the first doesn't yield. */
        private int whoYields(int who, int whom) {
            int first = people[whom].rank < people[who].rank ? whom : who;
            int second = who + whom - first;
            if (drawBelow100() < people[first].bent) {
                return first;
            }
            return drawBelow100() < people[second].bent ? second : NONE;
        }

        private int drawBelow100() {
            seed = 1103515245 * seed + 12345;
            return (seed >>> 16 & 0x7fff) % 100;
        }

        int costOfOwns(int person, int other) {
            return lands.manners.costOf(people[person].own, people[other].own);
        }

        /** A land that counts by its people counts once for each of them. */
        int expectedByAll(int greeting) {
            int together = 0;
            for (int i = 0; i < peopleCount; i++) {
                together += lands.expectedOf(people[i].land, greeting);
            }
            return together;
        }

        int costByRule(int rule) {
            int together = 0;
            for (int tie = 0; tie < tieCount; tie++) {
                int who = Math.min(tieWho[tie], tieWhom[tie]);
                int whom = Math.max(tieWho[tie], tieWhom[tie]);
                int price = lands.manners.costOf(greetingFor(who, whom), greetingFor(whom, who));
                int waits = beginner(rule, who, whom) == who ? whom : who;
                together += price * (100 - people[waits].bent);
            }
            return together;
        }

        private int beginner(int rule, int who, int whom) {
            int rank = people[who].rank;
            int theirs = people[whom].rank;
            boolean otherBegins = rule == 0 ? theirs > rank : rule == 1 && theirs < rank;
            return otherBegins ? whom : who;
        }

        int coldsAfter(int waving, int n) {
            int set = peopleWithCold();
            for (int i = 0; i < n; i++) {
                int before = set;
                for (int tie = 0; tie < tieCount; tie++) {
                    int two = 1 << tieWho[tie] | 1 << tieWhom[tie];
                    if ((two & waving) == 0 && (two & set) != 0) {
                        set |= two;
                    }
                }
                if (set == before) {
                    return set;
                }
            }
            return set;
        }
    }

    /** Reads a text thing by thing. Behind its first wrong byte nothing is taken any more. */
    private abstract static class TextReader {
        private static final int MOST_DIGITS = 3;

        int faultAt = NONE;
        private final int[] text;
        private final int length;
        private int takenAt;
        private int at;
        private int behind;

        TextReader(int[] text, int length) {
            this.text = text;
            this.length = Math.min(length, text.length);
        }

        abstract void readLine();

        /** Whether the text is right. */
        final boolean readLines(int mostLines) {
            goOn();
            boolean more = at < length;
            for (int line = 0; line < mostLines && more && faultAt == NONE; line++) {
                readLine();
                more = at < length;
                if (more) {
                    readSign(';');
                }
            }
            if (more) {
                nextIsWrong();
            }
            return faultAt == NONE;
        }

        final boolean isWrong() {
            return faultAt != NONE;
        }

        final void nextIsWrong() {
            if (faultAt == NONE) {
                faultAt = at;
            }
        }

        final void takenIsWrong() {
            if (faultAt == NONE) {
                faultAt = takenAt;
            }
        }

        final int bytesLeft() {
            return length - at;
        }

        private void goOn() {
            takenAt = at;
            at = behind;
            while (at < length && text[at] == ' ') {
                at++;
            }
            behind = at;
            while (behind < length && text[behind] >= 'a' && text[behind] <= 'z') {
                behind++;
            }
            if (behind == at) {
                while (behind < length && text[behind] >= '0' && text[behind] <= '9') {
                    behind++;
                }
            }
            if (behind == at && behind < length) {
                behind++;
            }
        }

        final boolean takeWord(String word) {
            if (faultAt != NONE || behind - at != word.length()) {
                return false;
            }
            for (int i = 0; i < word.length() && at + i < length; i++) {
                if (text[at + i] != word.charAt(i)) {
                    return false;
                }
            }
            goOn();
            return true;
        }

        final void readWord(String word) {
            if (!takeWord(word)) {
                nextIsWrong();
            }
        }

        final boolean takeSign(char sign) {
            boolean stands = faultAt == NONE && at < length && text[at] == sign;
            if (stands) {
                goOn();
            }
            return stands;
        }

        final void readSign(char sign) {
            if (!takeSign(sign)) {
                nextIsWrong();
            }
        }

        private boolean isNumberNext() {
            return at < length && text[at] >= '0' && text[at] <= '9';
        }

        /** NONE, if no such number stands there: then the text is wrong. */
        final int readNumber(int least, int most) {
            int number = isNumberNext() && behind - at <= MOST_DIGITS ? 0 : NONE;
            for (int i = at; number != NONE && i < behind && i < length; i++) {
                number = 10 * number + text[i] - '0';
            }
            if (faultAt != NONE || number < least || number > most) {
                nextIsWrong();
                return NONE;
            }
            goOn();
            return number;
        }

        /** NONE, if no greeting stands there: then the text is wrong. */
        final int readGreeting() {
            if (takeWord("wave")) {
                return Manners.codeOf(Manners.WAVE, 1, 0);
            }
            if (takeWord("hand")) {
                return Manners.codeOf(Manners.HAND, 1, 0);
            }
            if (takeWord("embrace")) {
                return Manners.codeOf(Manners.EMBRACE, 1, 0);
            }
            readWord("kiss");
            int kisses = readNumber(1, Manners.MOST_KISSES);
            boolean left = takeWord("left");
            if (!left) {
                readWord("right");
            }
            return faultAt != NONE ? NONE : Manners.codeOf(Manners.KISS, kisses, left ? 0 : 1);
        }
    }

    /** Reads a text of the town into a town that is thrown away if the text is wrong. */
    private static final class TownReader extends TextReader {
        private final Town town;

        TownReader(int[] text, int length, Town town) {
            super(text, length);
            this.town = town;
        }

        void readLine() {
            if (takeWord("land")) {
                readLand();
            } else if (takeWord("habit")) {
                readHabit();
            } else if (takeWord("person")) {
                readPerson();
            } else if (takeWord("cold")) {
                readCold();
            } else if (takeWord("tie")) {
                readTie();
            } else {
                readPrice();
            }
        }

        private void readLand() {
            if (town.lands.landCount >= Lands.MOST_LANDS) {
                takenIsWrong();
            } else {
                town.lands.landCount++;
            }
        }

        private void readHabit() {
            if (town.lands.habitCount >= Lands.MOST_HABITS) {
                takenIsWrong();
            }
            int land = readNumber(0, town.lands.landCount - 1);
            int greeting = readGreeting();
            readWord("weight");
            int weight = readNumber(1, Lands.MOST_WEIGHT);
            if (!isWrong()) {
                town.lands.addHabit(land, greeting, weight);
            }
        }

        private void readPerson() {
            if (town.peopleCount >= MOST_PEOPLE) {
                takenIsWrong();
            }
            int land = readNumber(0, town.lands.landCount - 1);
            int greeting = readGreeting();
            readWord("rank");
            int rank = readNumber(0, Person.MOST_RANK);
            readWord("bent");
            int bent = readNumber(0, Person.MOST_BENT);
            if (!isWrong()) {
                town.addPerson(land, greeting, rank, bent);
            }
        }

        private void readCold() {
            int person = readNumber(0, town.peopleCount - 1);
            if (!isWrong()) {
                town.people[person].hasCold = true;
            }
        }

        private void readTie() {
            if (town.tieCount >= MOST_TIES) {
                takenIsWrong();
            }
            int who = readNumber(0, town.peopleCount - 1);
            int whom = readNumber(0, town.peopleCount - 1);
            if (isWrong()) {
                return;
            }
            if (who == whom || town.areTied(who, whom)) {
                takenIsWrong();
            } else {
                town.addTie(who, whom);
            }
        }

        private void readPrice() {
            boolean isStomach = takeWord("stomach");
            boolean isAir = !isStomach && takeWord("air");
            if (!isStomach && !isAir) {
                readWord("noses");
            }
            int price = readNumber(0, Manners.MOST_PRICE);
            if (isStomach) {
                town.lands.manners.stomach = price;
            } else if (isAir) {
                town.lands.manners.air = price;
            } else {
                town.lands.manners.noses = price;
            }
        }
    }

    /** Reads the text of a law; what a step works on comes ahead of it. */
    private static final class LawReader extends TextReader {
        private static final int MOST_DEEP = 6;

        private final Law law;

        LawReader(int[] text, int length, Law law) {
            super(text, length);
            this.law = law;
        }

        void readLine() {
            int greeting = readGreeting();
            if (takeWord("if")) {
                readAny(0);
            }
            law.addLine(greeting);
        }

        private void readAny(int depth) {
            readAll(depth);
            for (int left = bytesLeft(); left > 0 && takeWord("or"); left--) {
                readAll(depth);
                law.addStep(Law.OR, 0);
            }
        }

        private void readAll(int depth) {
            readAtom(depth);
            for (int left = bytesLeft(); left > 0 && takeWord("and"); left--) {
                readAtom(depth);
                law.addStep(Law.AND, 0);
            }
        }

        private void readAtom(int depth) {
            boolean isNot = takeWord("not");
            if (isNot || takeSign('(')) {
                readDeeper(isNot, depth + 1);
            } else if (takeWord("same")) {
                law.addStep(Law.SAME, 0);
            } else if (takeWord("cold")) {
                law.addStep(Law.COLD, 0);
            } else {
                readSum();
                boolean isLess = takeSign('<');
                if (!isLess) {
                    readSign('>');
                }
                readSum();
                law.addStep(isLess ? Law.LESS : Law.MORE, 0);
            }
        }

        private void readDeeper(boolean isNot, int depth) {
            if (depth > MOST_DEEP) {
                takenIsWrong();
            } else if (isNot) {
                readAtom(depth);
                law.addStep(Law.NOT, 0);
            } else {
                readAny(depth);
                readSign(')');
            }
        }

        private void readSum() {
            readPart();
            for (int left = bytesLeft(); left > 0 && takeSign('+'); left--) {
                readPart();
                law.addStep(Law.PLUS, 0);
            }
        }

        private void readPart() {
            int step = takeWord("who") ? Law.WHO
                : takeWord("whom") ? Law.WHOM
                : takeWord("rank") ? Law.RANK
                : takeWord("theirs") ? Law.THEIRS
                : takeWord("met") ? Law.MET
                : takeWord("round") ? Law.ROUND
                : Law.NUMBER;
            law.addStep(step, step == Law.NUMBER ? readNumber(0, Law.MOST_NUMBER) : 0);
        }
    }

    /** Years in which all take at once what most of those around them have. */
    private static final class Years {
        private int people;
        private final int[] around = new int[MOST_PEOPLE];
        private int[] owns = new int[MOST_PEOPLE];
        private int[] lastYear = new int[MOST_PEOPLE];
        private int[] spare = new int[MOST_PEOPLE];
        private final int[] tally = new int[GREETINGS];

        void startFrom(Town town) {
            people = town.peopleCount;
            for (int i = 0; i < people; i++) {
                around[i] = town.people[i].tiedTo | 1 << i;
                owns[i] = town.people[i].own;
                lastYear[i] = NONE;
            }
        }

        void tell(int set, int greeting) {
            for (int i = 0; i < people; i++) {
                if (isIn(set, i)) {
                    owns[i] = greeting;
                }
            }
        }

        /** Whether anybody changed. */
        boolean passYear() {
            boolean changes = false;
            for (int i = 0; i < people; i++) {
                spare[i] = mostAround(i);
                changes |= spare[i] != owns[i];
            }
            int[] twoYearsAgo = lastYear;
            lastYear = owns;
            owns = spare;
            spare = twoYearsAgo;
            return changes;
        }

        void passYears(int n) {
            for (int year = 0; year < n; year++) {
                if (!passYear()) {
                    return;
                }
                if (isAsTwoYearsAgo()) {
                    // the search for who must be told would else spend most of its time on swapping to and fro
                    year += (n - 1 - year) / 2 * 2;
                }
            }
        }

        private boolean isAsTwoYearsAgo() {
            for (int i = 0; i < people; i++) {
                if (owns[i] != spare[i]) {
                    return false;
                }
            }
            return true;
        }

        private int mostAround(int person) {
            int most = 0;
            for (int i = 0; i < people; i++) {
                if (isIn(around[person], i)) {
                    tally[owns[i]]++;
                    most = Math.max(most, tally[owns[i]]);
                }
            }
            int choice = owns[person];
            boolean keeps = tally[choice] == most;
            for (int i = 0; i < people && !keeps; i++) {
                boolean ahead = tally[choice] < most || owns[i] < choice;
                if (tally[owns[i]] == most && ahead) {
                    choice = owns[i];
                }
            }
            Arrays.fill(tally, 0);
            return choice;
        }

        int ownOf(int person) {
            return person >= 0 && person < people ? owns[person] : NONE;
        }

        int howManyHave(int greeting) {
            int have = 0;
            for (int i = 0; i < people; i++) {
                have += owns[i] == greeting ? 1 : 0;
            }
            return have;
        }

        int kinds() {
            int seen = 0;
            for (int i = 0; i < people; i++) {
                seen |= 1 << owns[i];
            }
            return Integer.bitCount(seen);
        }

        int mostCommon() {
            int common = NONE;
            int most = 0;
            for (int greeting = 0; greeting < GREETINGS; greeting++) {
                int have = howManyHave(greeting);
                if (have > most) {
                    common = greeting;
                    most = have;
                }
            }
            return common;
        }
    }

    /** Tries the orders round a table, the first ones first. */
    private static final class Seating {
        static final int MOST_SEATS = 8;

        int leastCost;
        private Town town;
        private final int[] guests = new int[MOST_SEATS];
        private int guestCount;
        private final int[] order = new int[MOST_SEATS];
        private final int[] bestOrder = new int[MOST_SEATS];

        void seatAll(Town where, int set) {
            town = where;
            guestCount = 0;
            for (int i = 0; i < MOST_PEOPLE; i++) {
                if (isIn(set, i) && guestCount < MOST_SEATS) {
                    guests[guestCount] = i;
                    guestCount++;
                }
            }
            leastCost = 0;
            if (guestCount > 0) {
                leastCost = ABOVE_ALL;
                order[0] = guests[0];
                seatNext(this, 1, 1, 0);
            }
        }

        int guestAt(int k) {
            return k >= 0 && k < guestCount ? bestOrder[k] : NONE;
        }

        /** Each level seats one more: at most 8 are. */
        private static void seatNext(Seating at, int seated, int taken, int costSoFar) {
            if (seated < 1 || costSoFar >= at.leastCost) {
                return;
            }
            if (seated >= at.guestCount) {
                at.closeRing(costSoFar);
                return;
            }
            for (int i = 1; i < at.guestCount; i++) {
                if (!isIn(taken, i)) {
                    at.order[seated] = at.guests[i];
                    int between = at.town.costOfOwns(at.order[seated - 1], at.guests[i]);
                    seatNext(at, seated + 1, taken | 1 << i, costSoFar + between);
                }
            }
        }

        private void closeRing(int costSoFar) {
            // two are neighbours once, and one has none
            int closing = guestCount > 2 ? town.costOfOwns(order[guestCount - 1], order[0]) : 0;
            if (costSoFar + closing < leastCost) {
                leastCost = costSoFar + closing;
                System.arraycopy(order, 0, bestOrder, 0, MOST_SEATS);
            }
        }
    }
}
