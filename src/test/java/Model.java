import java.math.BigInteger;
import java.util.ArrayList;
import java.util.Arrays;
import java.util.List;

/**
 * The document once more, as slowly and plainly as can be: every hole is kept, fractions are of
 * BigIntegers, and a PLAN is looked for among all depths and all orders. Exceptions are told by the
 * THROWS numbers of Check.
 */
final class Model {
    static final int NONE = -1;

    private record Hole(int village, int pipes, boolean water, boolean well) {
    }

    private record Visit(int village, int age, boolean runs) {
    }

    private record Land(int rock, int people) {
    }

    private final StringBuilder tape = new StringBuilder();
    private int salt = 999;
    private int dry = 9;
    private int rest = 0;
    private int faultKind = 0;
    private int faultPlace = NONE;
    private final List<int[]> priors = new ArrayList<>();
    private final int[][] chances = new int[3][5];
    private final List<Land> lands = new ArrayList<>();
    private final int[][] ways = new int[8][8];
    private int rig = 0;
    private int day = 0;
    private final List<Hole> holes = new ArrayList<>();
    private final List<Visit> visits = new ArrayList<>();
    private int[] planOrder = null;
    private int[] planDepths = null;
    private int planPipes;
    private int planDays;

    Model() {
        for (int[] row : ways) {
            Arrays.fill(row, NONE);
        }
    }

    int feed(int... numbers) {
        if (tape.length() + 20 > 200) {
            return NONE;
        }
        for (int number : numbers) {
            for (int i = 3; i >= 0; i--) {
                tape.append((char) (number >> 8 * i & 255));
            }
        }
        return tape.length();
    }

    private record Token(String text, int place) {
    }

    private static List<Token> tokens(String text) {
        List<Token> all = new ArrayList<>();
        int at = 0;
        while (at < text.length()) {
            int start = at;
            String rest = text.substring(at);
            if (rest.matches("(?s)[\n ].*")) {
                at++;
                continue;
            }
            String token = rest.replaceFirst("(?s)^([a-z]+|[0-9]+|.).*$", "$1");
            at += token.length();
            all.add(new Token(token, start));
        }
        return all;
    }

    int rules(int n) {
        if (n < 0 || n > tape.length()) {
            return -2;
        }
        String text = tape.substring(0, n);
        tape.setLength(0);
        List<Token> tokens = tokens(text);
        List<String> names = List.of("salt", "dry", "rest");
        BigInteger[] values = new BigInteger[3];
        for (int i = 0; i < tokens.size() || i % 3 != 0; i++) {
            if (i >= tokens.size()) {
                return faulty(1, n);
            }
            Token token = tokens.get(i);
            if (i % 3 == 0) {
                int name = names.indexOf(token.text());
                if (name < 0) {
                    return faulty(1, token.place());
                }
                if (values[name] != null) {
                    return faulty(3, token.place());
                }
            } else if (i % 3 == 1) {
                if (!token.text().matches("[0-9]+")) {
                    return faulty(1, token.place());
                }
                int name = names.indexOf(tokens.get(i - 1).text());
                BigInteger value = new BigInteger(token.text());
                BigInteger most = BigInteger.valueOf(name == 0 ? 999 : 9);
                if (value.compareTo(most) > 0 || name == 1 && value.signum() == 0) {
                    return faulty(2, token.place());
                }
                values[name] = value;
            } else if (!token.text().equals(";")) {
                return faulty(1, token.place());
            }
        }
        salt = values[0] == null ? 999 : values[0].intValue();
        dry = values[1] == null ? 9 : values[1].intValue();
        rest = values[2] == null ? 0 : values[2].intValue();
        faultKind = 0;
        faultPlace = NONE;
        return tokens.size() / 3;
    }

    private int faulty(int kind, int place) {
        faultKind = kind;
        faultPlace = place;
        return NONE;
    }

    int fault(int what) {
        return what == 0 ? faultKind : what == 1 ? faultPlace : NONE;
    }

    private static boolean in(int number, int least, int most) {
        return least <= number && number <= most;
    }

    int rock(int a, int b, int c) {
        if (!in(a, 1, 99) || !in(b, 1, 99) || !in(c, 1, 99) || priors.size() == 4) {
            return NONE;
        }
        priors.add(new int[] {a, b, c});
        return priors.size() - 1;
    }

    boolean chance(int quality, int pipe, int of16) {
        if (!in(quality, 0, 2) || !in(pipe, 1, 4) || !in(of16, 0, 15)) {
            return false;
        }
        chances[quality][pipe] = of16;
        return true;
    }

    int village(int rock, int people) {
        if (!in(rock, 0, priors.size() - 1) || !in(people, 1, 9999) || lands.size() == 7) {
            return NONE;
        }
        lands.add(new Land(rock, people));
        return lands.size();
    }

    private boolean isVillage(int place) {
        return in(place, 1, lands.size());
    }

    boolean way(int a, int b, int days) {
        if (!in(a, 0, lands.size()) || !in(b, 0, lands.size()) || a == b) {
            return false;
        }
        if (days != NONE && !in(days, 1, 9)) {
            return false;
        }
        ways[a][b] = days;
        ways[b][a] = days;
        return true;
    }

    int go(int place) {
        if (!in(place, 0, lands.size()) || place == rig || ways[rig][place] == NONE) {
            return NONE;
        }
        if (day + ways[rig][place] > 9999) {
            return NONE;
        }
        day += ways[rig][place];
        rig = place;
        return day;
    }

    private int rockOf(int village) {
        return lands.get(village - 1).rock();
    }

    private int pipesOn(int rock) {
        return holes.stream().filter(h -> rockOf(h.village()) == rock).mapToInt(Hole::pipes).sum();
    }

    private boolean hasWell(int village) {
        return isVillage(village) && holes.stream().anyMatch(h -> h.village() == village && h.well());
    }

    private int badHoles(int village) {
        return (int) holes.stream().filter(h -> h.village() == village && !h.well()).count();
    }

    private int state(int village) {
        return hasWell(village) ? 1 : badHoles(village) >= dry ? 2 : 0;
    }

    int drill(int k, boolean water, int told) {
        if (!isVillage(rig) || hasWell(rig) || !in(k, 1, 4) || water && !in(told, 0, 999)) {
            return NONE;
        }
        if (pipesOn(rockOf(rig)) + k > 8 || day + k + rest > 9999) {
            return NONE;
        }
        day += k + rest;
        boolean well = water && told <= salt;
        holes.add(new Hole(rig, k, water, well));
        return well ? 1 : water ? 2 : 0;
    }

    private BigInteger weight(int rock, int quality) {
        BigInteger weight = BigInteger.valueOf(priors.get(rock)[quality]);
        for (Hole hole : holes) {
            for (int pipe = 1; rockOf(hole.village()) == rock && pipe <= hole.pipes(); pipe++) {
                int of16 = chances[quality][pipe];
                boolean met = hole.water() && pipe == hole.pipes();
                weight = weight.multiply(BigInteger.valueOf(met ? of16 : 16 - of16));
            }
        }
        return weight;
    }

    private BigInteger allWeights(int rock) {
        return weight(rock, 0).add(weight(rock, 1)).add(weight(rock, 2));
    }

    private static long least(BigInteger upper, BigInteger lower, int what) {
        BigInteger divisor = upper.gcd(lower);
        return (what == 0 ? upper : lower).divide(divisor).longValueExact();
    }

    long likely(int rock, int quality, int what) {
        if (!in(rock, 0, priors.size() - 1) || !in(quality, 0, 2) || !in(what, 0, 1)) {
            return NONE;
        }
        BigInteger all = allWeights(rock);
        return all.signum() == 0 ? NONE : least(weight(rock, quality), all, what);
    }

    int hope(int village, int depth) {
        return isVillage(village) && in(depth, 1, 4) ? hopeOn(rockOf(village), depth) : NONE;
    }

    private int hopeOn(int rock, int depth) {
        BigInteger all = allWeights(rock);
        if (all.signum() == 0) {
            return 0;
        }
        // The chance of water by each PIPE, if none was by those ahead, in parts of 16^depth.
        BigInteger sum = BigInteger.ZERO;
        for (int quality = 0; quality < 3; quality++) {
            BigInteger ahead = weight(rock, quality);
            for (int pipe = 1; pipe <= depth; pipe++) {
                BigInteger met = ahead.multiply(BigInteger.valueOf(chances[quality][pipe]));
                sum = sum.add(met.multiply(BigInteger.valueOf(16).pow(depth - pipe)));
                ahead = ahead.multiply(BigInteger.valueOf(16 - chances[quality][pipe]));
            }
        }
        BigInteger lower = all.multiply(BigInteger.valueOf(16).pow(depth));
        return sum.shiftLeft(20).divide(lower).intValueExact();
    }

    /** For each set of VILLAGES the first order with the fewest DAYS of WAYS, null if none. */
    private int[][] bestOrders(int[] fewest) {
        int[][] best = new int[1 << lands.size()][];
        Arrays.fill(fewest, Integer.MAX_VALUE);
        extend(new int[0], 0, rig, 0, best, fewest);
        return best;
    }

    private void extend(int[] order, int set, int from, int days, int[][] best, int[] fewest) {
        if (days < fewest[set]) {
            fewest[set] = days;
            best[set] = order;
        }
        for (int next = 1; next <= lands.size(); next++) {
            boolean already = (set >> next - 1 & 1) != 0;
            boolean here = order.length == 0 && next == rig;
            if (!already && (here || ways[from][next] != NONE) && state(next) == 0) {
                int[] longer = Arrays.copyOf(order, order.length + 1);
                longer[order.length] = next;
                int more = here ? 0 : ways[from][next];
                extend(longer, set | 1 << next - 1, next, days + more, best, fewest);
            }
        }
    }

    long plan(int pipes, int days) {
        if (!in(pipes, 0, 28) || !in(days, 0, 99)) {
            return NONE;
        }
        int villages = lands.size();
        int[] fewest = new int[1 << villages];
        int[][] orders = bestOrders(fewest);
        long[][] gains = new long[villages][5];
        for (int v = 0; v < villages; v++) {
            for (int depth = 1; depth <= 4; depth++) {
                gains[v][depth] = (long) lands.get(v).people() * hope(v + 1, depth);
            }
        }
        long best = -1;
        int[] depths = new int[villages];
        do {
            int set = 0;
            int all = 0;
            long worth = 0;
            for (int v = 0; v < villages; v++) {
                if (depths[v] > 0) {
                    set |= 1 << v;
                    all += depths[v];
                    worth += gains[v][depths[v]];
                }
            }
            if (orders[set] == null || all > pipes) {
                continue;
            }
            int inDays = fewest[set] + all + rest * Integer.bitCount(set);
            if (inDays > days) {
                continue;
            }
            boolean better = worth > best || worth == best
                    && (all < planPipes || all == planPipes && inDays < planDays);
            if (better) {
                best = worth;
                planPipes = all;
                planDays = inDays;
                planDepths = depths.clone();
                planOrder = orders[set];
            }
        } while (nextDepths(depths));
        return best;
    }

    /** The depths that follow, the last VILLAGE's first; false behind the last of all. */
    private static boolean nextDepths(int[] depths) {
        for (int v = depths.length - 1; v >= 0; v--) {
            if (depths[v] < 4) {
                depths[v]++;
                return true;
            }
            depths[v] = 0;
        }
        return false;
    }

    int planned(int what, int k) {
        if (planOrder == null || !in(what, 0, 4)) {
            return NONE;
        }
        if (what >= 2) {
            return what == 2 ? planPipes : what == 3 ? planDays : planOrder.length;
        }
        if (!in(k, 0, planOrder.length - 1)) {
            return NONE;
        }
        return what == 0 ? planOrder[k] : planDepths[planOrder[k] - 1];
    }

    boolean visit(int village, int age, boolean runs) {
        if (!hasWell(village) || !in(age, 1, 30)) {
            return false;
        }
        visits.add(new Visit(village, age, runs));
        return true;
    }

    private int endOf(int village) {
        return visits.stream().filter(v -> v.village() == village && !v.runs())
                .mapToInt(Visit::age).min().orElse(NONE);
    }

    private int runOf(int village) {
        return visits.stream().filter(v -> v.village() == village && v.runs())
                .mapToInt(Visit::age).max().orElse(0);
    }

    long still(int age, int what) {
        if (!in(age, 1, 30) || !in(what, 0, 1)) {
            return NONE;
        }
        BigInteger upper = BigInteger.ONE;
        BigInteger lower = BigInteger.ONE;
        for (int i = 1; i <= age; i++) {
            int ends = 0;
            int n = 0;
            for (int village = 1; village <= lands.size(); village++) {
                int end = endOf(village);
                ends += end == i ? 1 : 0;
                n += end >= i || end == NONE && runOf(village) >= i ? 1 : 0;
            }
            if (ends > 0) {
                upper = upper.multiply(BigInteger.valueOf(n - ends));
                lower = lower.multiply(BigInteger.valueOf(n));
            }
        }
        return least(upper, lower, what);
    }

    long look(int village, int what) {
        if (!isVillage(village)) {
            return Check.THROWS_INDEX;
        }
        return switch (what) {
            case 0 -> rockOf(village);
            case 1 -> lands.get(village - 1).people();
            case 2 -> state(village);
            case 3 -> badHoles(village);
            case 4 -> holes.stream().filter(h -> h.village() == village && h.well())
                    .mapToInt(Hole::pipes).findFirst().orElse(NONE);
            case 5 -> endOf(village);
            case 6 -> runOf(village);
            default -> Check.THROWS_ELEMENT;
        };
    }

    int count(int what) {
        int water = 0;
        for (int village = 1; village <= lands.size(); village++) {
            water += hasWell(village) ? lands.get(village - 1).people() : 0;
        }
        return switch (what) {
            case 0 -> priors.size();
            case 1 -> lands.size();
            case 2 -> day;
            case 3 -> rig;
            case 4 -> water;
            case 5 -> holes.stream().mapToInt(Hole::pipes).sum();
            default -> NONE;
        };
    }
}
