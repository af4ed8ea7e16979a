import java.util.NoSuchElementException;

/** A bench for wells drilled by a rig in dry villages. The words in capitals are the document's. */
public final class DryWells {
    public static final int NONE = -1;

    private static final int LAST_DAY = 9999;
    private static final int MOST_SALT = 999;
    private static final int MOST_PLAN_PIPES = 28;
    private static final int MOST_PLAN_DAYS = 99;

    private final Tape tape;
    private final Book book;
    private final Rocks rocks;
    private final Villages villages;
    private final Ways ways;
    private final Planner planner;
    private int rigPlace;
    private int day;

    public DryWells() {
        tape = new Tape();
        book = new Book();
        rocks = new Rocks();
        villages = new Villages();
        ways = new Ways();
        planner = new Planner();
        rigPlace = 0;
        day = 0;
    }

    public int feed(int a, int b, int c, int d, int e) {
        if (!tape.hasRoom()) {
            return NONE;
        }
        tape.append(a);
        tape.append(b);
        tape.append(c);
        tape.append(d);
        tape.append(e);
        return tape.length();
    }

    public int rules(int n) {
        if (n < 0 || n > tape.length()) {
            return -2;
        }
        int lines = book.read(tape, n);
        tape.clear();
        return lines;
    }

    public int fault(int what) {
        if (what == 0) {
            return book.faultKind();
        }
        return what == 1 ? book.faultPlace() : NONE;
    }

    public int rock(int a, int b, int c) {
        if (!Rocks.isPrior(a) || !Rocks.isPrior(b) || !Rocks.isPrior(c)) {
            return NONE;
        }
        return rocks.append(a, b, c);
    }

    public boolean chance(int quality, int pipe, int of16) {
        if (!Rocks.isQuality(quality) || !Rocks.isDepth(pipe) || of16 < 0 || of16 > 15) {
            return false;
        }
        rocks.setChance(quality, pipe, of16);
        return true;
    }

    public int village(int rock, int people) {
        if (!rocks.has(rock) || people < 1 || people > 9999) {
            return NONE;
        }
        return villages.append(rock, people);
    }

    public boolean way(int a, int b, int days) {
        if (!isPlace(a) || !isPlace(b) || a == b) {
            return false;
        }
        if (days != NONE && (days < 1 || days > 9)) {
            return false;
        }
        ways.set(a, b, days);
        return true;
    }

    public int go(int place) {
        if (!isPlace(place) || place == rigPlace || !ways.joins(rigPlace, place)) {
            return NONE;
        }
        int then = day + ways.days(rigPlace, place);
        if (then > LAST_DAY) {
            return NONE;
        }
        rigPlace = place;
        day = then;
        return day;
    }

    public int drill(int k, boolean water, int salt) {
        if (!villages.has(rigPlace) || villages.hasWell(rigPlace) || !Rocks.isDepth(k)) {
            return NONE;
        }
        if (water && (salt < 0 || salt > MOST_SALT)) {
            return NONE;
        }
        int rock = villages.rockOf(rigPlace);
        int then = day + k + book.rest();
        if (!rocks.hasRoom(rock, k) || then > LAST_DAY) {
            return NONE;
        }
        day = then;
        rocks.addHole(rock, k, water);
        if (water && salt <= book.salt()) {
            villages.makeWell(rigPlace, k);
            return 1;
        }
        villages.addBadHole(rigPlace);
        return water ? 2 : 0;
    }

    public long likely(int rock, int quality, int what) {
        if (!rocks.has(rock) || !Rocks.isQuality(quality) || what < 0 || what > 1) {
            return NONE;
        }
        long all = rocks.allWeights(rock);
        if (all == 0) {
            return NONE;
        }
        return leastTerm(rocks.weight(rock, quality), all, what);
    }

    public int hope(int village, int depth) {
        if (!villages.has(village) || !Rocks.isDepth(depth)) {
            return NONE;
        }
        return rocks.hopeOn(villages.rockOf(village), depth);
    }

    public long plan(int pipes, int days) {
        if (pipes < 0 || pipes > MOST_PLAN_PIPES || days < 0 || days > MOST_PLAN_DAYS) {
            return NONE;
        }
        planner.admit(villages, rocks, book.dry());
        planner.measureWays(ways, villages.size());
        planner.weighDepths(pipes);
        planner.choose(rigPlace, pipes, days, book.rest());
        return planner.worth();
    }

    public int planned(int what, int k) {
        return planner.tell(what, k);
    }

    public boolean visit(int village, int age, boolean runs) {
        if (!villages.has(village) || !villages.hasWell(village) || !Villages.isAge(age)) {
            return false;
        }
        villages.addVisit(village, age, runs);
        return true;
    }

    public long still(int age, int what) {
        if (!Villages.isAge(age) || what < 0 || what > 1) {
            return NONE;
        }
        long upper = 1;
        long lower = 1;
        for (int i = 1; i <= age; i++) {
            int ends = villages.endsAt(i);
            if (ends > 0) {
                int wells = villages.knownUpTo(i);
                upper *= wells - ends;
                lower *= wells;
            }
        }
        return leastTerm(upper, lower, what);
    }

    public int look(int village, int what) throws IndexOutOfBoundsException, NoSuchElementException {
        if (!villages.has(village)) {
            throw new IndexOutOfBoundsException("no such VILLAGE");
        }
        switch (what) {
            case 0:
                return villages.rockOf(village);
            case 1:
                return villages.peopleOf(village);
            case 2:
                return villages.state(village, book.dry());
            case 3:
                return villages.badHoles(village);
            case 4:
                return villages.wellPipes(village);
            case 5:
                return villages.endAge(village);
            case 6:
                return villages.runAge(village);
            default:
                throw new NoSuchElementException("no such what");
        }
    }

    public int count(int what) {
        switch (what) {
            case 0:
                return rocks.size();
            case 1:
                return villages.size();
            case 2:
                return day;
            case 3:
                return rigPlace;
            case 4:
                return villages.peopleWithWater();
            case 5:
                return rocks.allPipes();
            default:
                return NONE;
        }
    }

    private boolean isPlace(int number) {
        return number == 0 || villages.has(number);
    }

    /** Of upper by lower in least terms, what 0: the upper number, else the lower one. */
    private static long leastTerm(long upper, long lower, int what) {
        long divisor = commonDivisor(upper, lower);
        if (divisor == 0) {
            return NONE;
        }
        return what == 0 ? upper / divisor : lower / divisor;
    }

    private static long commonDivisor(long a, long b) {
        long greater = a;
        long lesser = b;
        // Numbers below 2 to the 63 are through in fewer than 100 steps.
        for (int step = 0; step < 200 && lesser != 0; step++) {
            long left = greater % lesser;
            greater = lesser;
            lesser = left;
        }
        return greater;
    }

    /** The TAPE: bytes that wait to be read as RULES. */
    private static final class Tape {
        private static final int MOST = 200;
        private static final int AT_ONCE = 20;

        private final int[] bytes = new int[MOST];
        private int length = 0;

        boolean hasRoom() {
            return length + AT_ONCE <= MOST;
        }

        void append(int number) {
            for (int shift = 24; shift >= 0 && length < MOST; shift -= 8) {
                bytes[length] = (number >>> shift) & 255;
                length++;
            }
        }

        int length() {
            return length;
        }

        void clear() {
            length = 0;
        }

        /** The byte at an index, NONE where there is none. */
        int at(int index) {
            return index >= 0 && index < length ? bytes[index] : NONE;
        }
    }

    /** The RULES, and the reader of their text. */
    private static final class Book {
        private static final int SALT = 0;
        private static final int DRY = 1;
        private static final int REST = 2;
        private static final int KINDS = 3;
        private static final int[] LEAST = {0, 1, 0};
        private static final int[] MOST = {999, 9, 9};
        private static final int[] UNTOLD = {999, 9, 0};
        // Above every N that may stand, so that long digits can't wrap round.
        private static final int TOO_MUCH = 100000;

        private static final int NO_TOKEN = 1;
        private static final int BEYOND = 2;
        private static final int TWICE = 3;

        private final int[] numbers = {999, 9, 0};
        private final int[] fresh = new int[KINDS];
        private final boolean[] told = new boolean[KINDS];
        private int faultKind = 0;
        private int faultPlace = NONE;
        private int at = 0;
        private int end = 0;

        int salt() {
            return numbers[SALT];
        }

        int dry() {
            return numbers[DRY];
        }

        int rest() {
            return numbers[REST];
        }

        int faultKind() {
            return faultKind;
        }

        int faultPlace() {
            return faultPlace;
        }

        /** Reads the first n bytes; with a FAULT the RULES stay as they were. */
        int read(Tape tape, int n) {
            begin(n);
            int lines = 0;
            skipBlanks(tape);
            while (at < end && lines <= KINDS) {
                if (!readLine(tape)) {
                    return NONE;
                }
                lines++;
                skipBlanks(tape);
            }
            for (int kind = 0; kind < KINDS; kind++) {
                numbers[kind] = fresh[kind];
            }
            return lines;
        }

        private void begin(int n) {
            at = 0;
            end = n;
            faultKind = 0;
            faultPlace = NONE;
            for (int kind = 0; kind < KINDS; kind++) {
                fresh[kind] = UNTOLD[kind];
                told[kind] = false;
            }
        }

        private boolean readLine(Tape tape) {
            int start = at;
            int kind = readWord(tape);
            if (kind == NONE) {
                return fail(NO_TOKEN, start);
            }
            if (told[kind]) {
                return fail(TWICE, start);
            }
            told[kind] = true;
            skipBlanks(tape);
            return readNumber(tape, kind) && readEnd(tape);
        }

        /** The kind of LINE that the word at this place begins; NONE if it is no such word. */
        private int readWord(Tape tape) {
            int start = at;
            while (at < end && isLetter(tape.at(at))) {
                at++;
            }
            if (isWord(tape, start, "salt")) {
                return SALT;
            }
            if (isWord(tape, start, "dry")) {
                return DRY;
            }
            return isWord(tape, start, "rest") ? REST : NONE;
        }

        private boolean isWord(Tape tape, int start, String word) {
            if (at - start != word.length()) {
                return false;
            }
            for (int i = 0; i < word.length(); i++) {
                if (tape.at(start + i) != word.charAt(i)) {
                    return false;
                }
            }
            return true;
        }

        private boolean readNumber(Tape tape, int kind) {
            int start = at;
            int number = 0;
            while (at < end && isDigit(tape.at(at))) {
                number = Math.min(TOO_MUCH, number * 10 + tape.at(at) - '0');
                at++;
            }
            if (at == start) {
                return fail(NO_TOKEN, start);
            }
            if (number < LEAST[kind] || number > MOST[kind]) {
                return fail(BEYOND, start);
            }
            fresh[kind] = number;
            return true;
        }

        private boolean readEnd(Tape tape) {
            skipBlanks(tape);
            if (at >= end || tape.at(at) != ';') {
                return fail(NO_TOKEN, at);
            }
            at++;
            return true;
        }

        private void skipBlanks(Tape tape) {
            while (at < end && isBlank(tape.at(at))) {
                at++;
            }
        }

        private boolean fail(int kind, int where) {
            faultKind = kind;
            faultPlace = where;
            return false;
        }

        private static boolean isBlank(int sign) {
            return sign == 10 || sign == 32;
        }

        private static boolean isLetter(int sign) {
            return sign >= 'a' && sign <= 'z';
        }

        private static boolean isDigit(int sign) {
            return sign >= '0' && sign <= '9';
        }
    }

    /** ROCKS with their PRIORS, the CHANCES for all of them, and what was found on each. */
    private static final class Rocks {
        private static final int MOST = 4;
        private static final int QUALITIES = 3;
        private static final int DEEPEST = 4;
        private static final int MOST_PIPES = 8;
        private static final int HOPE_BITS = 20;

        private final int[] priors = new int[MOST * QUALITIES];
        private final int[] chances = new int[QUALITIES * DEEPEST];
        // By ROCK and PIPE of a hole: how often it met water, how often none.
        private final int[] wet = new int[MOST * DEEPEST];
        private final int[] barren = new int[MOST * DEEPEST];
        private final int[] pipes = new int[MOST];
        private int size = 0;

        static boolean isPrior(int number) {
            return number >= 1 && number <= 99;
        }

        static boolean isQuality(int quality) {
            return quality >= 0 && quality < QUALITIES;
        }

        static boolean isDepth(int depth) {
            return depth >= 1 && depth <= DEEPEST;
        }

        boolean has(int rock) {
            return rock >= 0 && rock < size;
        }

        int size() {
            return size;
        }

        int append(int a, int b, int c) {
            if (size >= MOST) {
                return NONE;
            }
            int first = size * QUALITIES;
            priors[first] = a;
            priors[first + 1] = b;
            priors[first + 2] = c;
            size++;
            return size - 1;
        }

        void setChance(int quality, int pipe, int of16) {
            chances[quality * DEEPEST + pipe - 1] = of16;
        }

        boolean hasRoom(int rock, int more) {
            return pipes[rock] + more <= MOST_PIPES;
        }

        void addHole(int rock, int depth, boolean water) {
            int last = rock * DEEPEST + depth - 1;
            for (int cell = rock * DEEPEST; cell < last; cell++) {
                barren[cell]++;
            }
            if (water) {
                wet[last]++;
            } else {
                barren[last]++;
            }
            pipes[rock] += depth;
        }

        int allPipes() {
            int all = 0;
            for (int rock = 0; rock < size; rock++) {
                all += pipes[rock];
            }
            return all;
        }

        /**
         * The WEIGHT, times 16 for each PIPE on the ROCK: that is the same for all QUALITIES, so no
         * answer changes by it; and with 8 PIPES it is at most 99 times 2 to the 32.
         */
        long weight(int rock, int quality) {
            long product = priors[rock * QUALITIES + quality];
            for (int i = 0; i < DEEPEST; i++) {
                int of16 = chances[quality * DEEPEST + i];
                int cell = rock * DEEPEST + i;
                for (int n = 0; n < wet[cell]; n++) {
                    product *= of16;
                }
                for (int n = 0; n < barren[cell]; n++) {
                    product *= 16 - of16;
                }
            }
            return product;
        }

        long allWeights(int rock) {
            long all = 0;
            for (int quality = 0; quality < QUALITIES; quality++) {
                all += weight(rock, quality);
            }
            return all;
        }

        /** HOPE of a new hole on a ROCK; the upper number stays below 297 times 2 to the 52. */
        int hopeOn(int rock, int depth) {
            long all = allWeights(rock);
            if (all == 0) {
                return 0;
            }
            long upper = 0;
            for (int quality = 0; quality < QUALITIES; quality++) {
                upper += weight(rock, quality) * wetParts(quality, depth);
            }
            return (int) ((upper << (HOPE_BITS - 4 * depth)) / all);
        }

        /** The chance that a hole on that QUALITY meets water, in parts of 16 to the depth. */
        private long wetParts(int quality, int depth) {
            long none = 1;
            for (int i = 0; i < depth; i++) {
                none *= 16 - chances[quality * DEEPEST + i];
            }
            return (1L << (4 * depth)) - none;
        }
    }

    /** The VILLAGES, by their PLACES, with their holes, WELLS and VISITS. */
    private static final class Villages {
        static final int MOST = 7;
        static final int DRY = 0;
        static final int WITH_WELL = 1;
        static final int GIVEN_UP = 2;

        private final int[] rocks = new int[MOST + 1];
        private final int[] people = new int[MOST + 1];
        private final int[] badHoles = new int[MOST + 1];
        // PIPES of the WELL, the AGE at which it ENDS: NONE without.
        private final int[] wellPipes = new int[MOST + 1];
        private final int[] endAges = new int[MOST + 1];
        private final int[] runAges = new int[MOST + 1];
        private int size = 0;

        static boolean isAge(int age) {
            return age >= 1 && age <= 30;
        }

        boolean has(int village) {
            return village >= 1 && village <= size;
        }

        int size() {
            return size;
        }

        int append(int rock, int number) {
            if (size >= MOST) {
                return NONE;
            }
            size++;
            rocks[size] = rock;
            people[size] = number;
            badHoles[size] = 0;
            wellPipes[size] = NONE;
            endAges[size] = NONE;
            runAges[size] = 0;
            return size;
        }

        int rockOf(int village) {
            return rocks[village];
        }

        int peopleOf(int village) {
            return people[village];
        }

        int badHoles(int village) {
            return badHoles[village];
        }

        int wellPipes(int village) {
            return wellPipes[village];
        }

        int endAge(int village) {
            return endAges[village];
        }

        int runAge(int village) {
            return runAges[village];
        }

        boolean hasWell(int village) {
            return wellPipes[village] != NONE;
        }

        int state(int village, int dryHoles) {
            if (hasWell(village)) {
                return WITH_WELL;
            }
            return badHoles[village] >= dryHoles ? GIVEN_UP : DRY;
        }

        void makeWell(int village, int depth) {
            wellPipes[village] = depth;
        }

        void addBadHole(int village) {
            badHoles[village]++;
        }

        void addVisit(int village, int age, boolean runs) {
            if (runs) {
                runAges[village] = Math.max(runAges[village], age);
            } else if (endAges[village] == NONE || age < endAges[village]) {
                endAges[village] = age;
            }
        }

        int endsAt(int age) {
            int ends = 0;
            for (int village = 1; village <= size; village++) {
                if (endAges[village] == age) {
                    ends++;
                }
            }
            return ends;
        }

        /** How many WELLS END at that AGE or behind, or are known to run up to it or behind. */
        int knownUpTo(int age) {
            int wells = 0;
            for (int village = 1; village <= size; village++) {
                int known = endAges[village] == NONE ? runAges[village] : endAges[village];
                if (known >= age) {
                    wells++;
                }
            }
            return wells;
        }

        int peopleWithWater() {
            int all = 0;
            for (int village = 1; village <= size; village++) {
                if (hasWell(village)) {
                    all += people[village];
                }
            }
            return all;
        }
    }

    /** The WAYS between PLACES. */
    private static final class Ways {
        static final int PLACES = Villages.MOST + 1;

        // 0 where there is no WAY.
        private final int[] days = new int[PLACES * PLACES];

        void set(int a, int b, int number) {
            int kept = number == NONE ? 0 : number;
            days[a * PLACES + b] = kept;
            days[b * PLACES + a] = kept;
        }

        boolean joins(int a, int b) {
            return days[a * PLACES + b] > 0;
        }

        int days(int a, int b) {
            return days[a * PLACES + b];
        }
    }

    /**
     * Finds PLANS. A set of VILLAGES is a number whose bit v - 1 stands for VILLAGE v. Only the set
     * decides the WAYS and the rests, and a PIPE takes a DAY wherever it is drilled: so the shortest
     * WAYS are found by sets, and the depths by sets and PIPES in all, each without the other.
     */
    private static final class Planner {
        private static final int SETS = 1 << Villages.MOST;
        private static final int PLACES = Ways.PLACES;
        private static final int DEEPEST = Rocks.DEEPEST;
        private static final int PIPE_ROW = MOST_PLAN_PIPES + 1;
        // More DAYS than any PLAN may have, for what no WAYS lead to.
        private static final int FAR = 1000;

        private int admitted = 0;
        // PEOPLE times HOPE, by VILLAGE and depth.
        private final long[] gains = new long[PLACES * (DEEPEST + 1)];
        // By set and PLACE: the fewest DAYS of WAYS from there to all of the set; FAR if it can't be.
        private final int[] roads = new int[SETS * PLACES];
        private final int[] steps = new int[PLACES * PLACES];
        // By set and PIPES in all: the greatest WORTH with all of the set in it; NONE if it can't be.
        private final long[] worths = new long[SETS * PIPE_ROW];

        private boolean made = false;
        private long worth = 0;
        private int set = 0;
        private int pipes = 0;
        private int days = 0;
        private int stops = 0;
        private final int[] depths = new int[PLACES];
        private final int[] rivals = new int[PLACES];
        private final int[] order = new int[Villages.MOST];

        long worth() {
            return worth;
        }

        int tell(int what, int k) {
            if (!made) {
                return NONE;
            }
            switch (what) {
                case 0:
                    return k >= 0 && k < stops ? order[k] : NONE;
                case 1:
                    return k >= 0 && k < stops ? depths[order[k]] : NONE;
                case 2:
                    return pipes;
                case 3:
                    return days;
                case 4:
                    return stops;
                default:
                    return NONE;
            }
        }

        /** Takes up which VILLAGES may be in a PLAN, and what each depth there is worth. */
        void admit(Villages villages, Rocks rocks, int dryHoles) {
            admitted = 0;
            for (int village = 1; village <= villages.size(); village++) {
                if (villages.state(village, dryHoles) == Villages.DRY) {
                    admitted |= bit(village);
                    for (int depth = 1; depth <= DEEPEST; depth++) {
                        long hope = rocks.hopeOn(villages.rockOf(village), depth);
                        gains[village * (DEEPEST + 1) + depth] = villages.peopleOf(village) * hope;
                    }
                }
            }
        }

        void measureWays(Ways ways, int lastPlace) {
            for (int from = 0; from <= lastPlace; from++) {
                for (int to = 0; to <= lastPlace; to++) {
                    steps[from * PLACES + to] = stepDays(ways, from, to);
                }
                roads[from] = 0;
            }
            for (int some = 1; some <= admitted; some++) {
                if (isAdmitted(some)) {
                    measureSet(some, lastPlace);
                }
            }
        }

        private void measureSet(int some, int lastPlace) {
            for (int from = 0; from <= lastPlace; from++) {
                roads[some * PLACES + from] = shortest(some, from, lastPlace);
            }
        }

        /** A step to the PLACE itself happens only where the RIG stands at first: there it is free. */
        private static int stepDays(Ways ways, int from, int to) {
            if (from == to) {
                return 0;
            }
            return ways.joins(from, to) ? ways.days(from, to) : FAR;
        }

        private int shortest(int some, int from, int lastPlace) {
            int best = FAR;
            for (int next = 1; next <= lastPlace; next++) {
                if ((some & bit(next)) != 0) {
                    best = Math.min(best, roadBy(some, from, next));
                }
            }
            return best;
        }

        /** DAYS of WAYS from a PLACE to all of a set, the next one first. */
        private int roadBy(int some, int from, int next) {
            return steps[from * PLACES + next] + roads[(some & ~bit(next)) * PLACES + next];
        }

        void weighDepths(int mostPipes) {
            for (int all = 0; all <= mostPipes; all++) {
                worths[all] = all == 0 ? 0 : NONE;
            }
            for (int some = 1; some <= admitted; some++) {
                if (isAdmitted(some)) {
                    weighSet(some, mostPipes);
                }
            }
        }

        private void weighSet(int some, int mostPipes) {
            int village = firstOf(some);
            int others = some & ~bit(village);
            for (int all = 0; all <= mostPipes; all++) {
                worths[some * PIPE_ROW + all] = greatest(others, all, village);
            }
        }

        private long greatest(int others, int all, int village) {
            long best = NONE;
            for (int depth = 1; depth <= DEEPEST && depth <= all; depth++) {
                best = Math.max(best, worthWith(others, all - depth, village, depth));
            }
            return best;
        }

        /** The greatest WORTH of a VILLAGE with that depth and others with so many PIPES, or NONE. */
        private long worthWith(int others, int left, int village, int depth) {
            long known = worths[others * PIPE_ROW + left];
            return known == NONE ? NONE : known + gains[village * (DEEPEST + 1) + depth];
        }

        void choose(int place, int mostPipes, int mostDays, int rest) {
            made = false;
            for (int some = 0; some <= admitted; some++) {
                if (isAdmitted(some)) {
                    int idle = roads[some * PLACES + place] + rest * Integer.bitCount(some);
                    int most = Math.min(mostPipes, mostDays - idle);
                    for (int all = 0; all <= most; all++) {
                        offer(some, all, all + idle);
                    }
                }
            }
            stops = Integer.bitCount(set);
            layOrder(place);
        }

        private void offer(int some, int all, int inDays) {
            long offered = worths[some * PIPE_ROW + all];
            if (offered == NONE || !isBetter(offered, some, all, inDays)) {
                return;
            }
            made = true;
            worth = offered;
            set = some;
            pipes = all;
            days = inDays;
            layDepths(some, all, depths);
        }

        private boolean isBetter(long offered, int some, int all, int inDays) {
            if (!made || offered != worth) {
                return !made || offered > worth;
            }
            if (all != pipes) {
                return all < pipes;
            }
            if (inDays != days) {
                return inDays < days;
            }
            layDepths(some, all, rivals);
            for (int village = 1; village < PLACES; village++) {
                if (rivals[village] != depths[village]) {
                    return rivals[village] < depths[village];
                }
            }
            return false;
        }

        /** Lays down the first depths by which a set has its greatest WORTH with so many PIPES. */
        private void layDepths(int some, int all, int[] row) {
            int left = all;
            int others = some;
            for (int village = 1; village < PLACES; village++) {
                row[village] = 0;
                if ((others & bit(village)) != 0) {
                    long wanted = worths[others * PIPE_ROW + left];
                    others &= ~bit(village);
                    row[village] = leastDepth(others, left, village, wanted);
                    left -= row[village];
                }
            }
        }

        private int leastDepth(int others, int all, int village, long wanted) {
            for (int depth = 1; depth < DEEPEST && depth < all; depth++) {
                if (worthWith(others, all - depth, village, depth) == wanted) {
                    return depth;
                }
            }
            return Math.min(DEEPEST, all);
        }

        /** Lays down the first order by numbers of those with the fewest DAYS. */
        private void layOrder(int place) {
            int from = place;
            int others = set;
            for (int k = 0; k < stops; k++) {
                int next = firstStop(others, from);
                order[k] = next;
                others &= ~bit(next);
                from = next;
            }
        }

        private int firstStop(int some, int from) {
            int wanted = roads[some * PLACES + from];
            for (int next = 1; next < PLACES; next++) {
                if ((some & bit(next)) != 0 && roadBy(some, from, next) == wanted) {
                    return next;
                }
            }
            return firstOf(some);
        }

        private boolean isAdmitted(int some) {
            return (some & ~admitted) == 0;
        }

        private static int bit(int village) {
            return 1 << (village - 1);
        }

        private static int firstOf(int some) {
            int village = 1;
            while (village < Villages.MOST && (some & bit(village)) == 0) {
                village++;
            }
            return village;
        }
    }
}
