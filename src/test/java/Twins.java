import java.util.ArrayList;
import java.util.List;
import java.util.function.Function;
import java.util.function.Supplier;
import java.util.function.ToLongFunction;

/**
 * Whether a call leaves all as it was: of two objects made alike one gets the call, and then both must
 * answer the same questions, and the same changes, alike. Each row of questions has twins of its own,
 * as some of them change what the next would be asked of.
 */
final class Twins {
    private static final List<Function<DryWells, List<Long>>> ROWS = List.of(
            Twins::readings, Twins::lives, Twins::plans, Twins::tapeLength, Twins::tapeAsRules, Twins::ways,
            Twins::rulesInForce, Twins::room);

    private Twins() {
    }

    /** The call answers what is due, and nothing else is changed by it. */
    static void unchanged(String call, Supplier<DryWells> maker, ToLongFunction<DryWells> made, long due) {
        for (int row = 0; row < ROWS.size(); row++) {
            DryWells touched = maker.get();
            DryWells left = maker.get();
            Check.due(call, made.applyAsLong(touched), due);
            List<Long> got = ROWS.get(row).apply(touched);
            List<Long> want = ROWS.get(row).apply(left);
            Check.due("all as it was behind " + call + ", row " + row + ": " + got + " and " + want,
                    got.equals(want), true);
        }
    }

    private static List<Long> readings(DryWells x) {
        List<Long> all = new ArrayList<>();
        for (int what = 0; what <= 5; what++) {
            all.add((long) x.count(what));
        }
        all.add((long) x.fault(0));
        all.add((long) x.fault(1));
        for (int village = 1; village <= 7; village++) {
            for (int what = 0; what <= 6; what++) {
                all.add(Check.look(x, village, what));
            }
            for (int depth = 1; depth <= 4; depth++) {
                all.add((long) x.hope(village, depth));
            }
        }
        for (int i = 0; i < 24; i++) {
            all.add(x.likely(i / 6, i / 2 % 3, i % 2));
        }
        addPlanned(all, x);
        return all;
    }

    private static void addPlanned(List<Long> all, DryWells x) {
        for (int k = 0; k < 7; k++) {
            all.add((long) x.planned(0, k));
            all.add((long) x.planned(1, k));
        }
        for (int what = 2; what <= 4; what++) {
            all.add((long) x.planned(what, 0));
        }
    }

    private static List<Long> lives(DryWells x) {
        List<Long> all = new ArrayList<>();
        for (int age = 1; age <= 30; age++) {
            all.add(x.still(age, 0));
            all.add(x.still(age, 1));
        }
        return all;
    }

    private static List<Long> plans(DryWells x) {
        List<Long> all = new ArrayList<>();
        int[] limits = {28, 99, 6, 30, 3, 12, 1, 5};
        for (int i = 0; i < limits.length; i += 2) {
            all.add(x.plan(limits[i], limits[i + 1]));
            addPlanned(all, x);
        }
        return all;
    }

    /** The TAPE's length, and that a sign put behind it stands there. */
    private static List<Long> tapeLength(DryWells x) {
        List<Long> all = new ArrayList<>();
        all.add((long) x.feed(0x20202020, 0x20202020, 0x20202020, 0x20202020, 0x2020203f));
        addRules(all, x);
        return all;
    }

    /** What waits on the TAPE is seen by what it does as RULES. */
    private static List<Long> tapeAsRules(DryWells x) {
        List<Long> all = new ArrayList<>();
        addRules(all, x);
        all.addAll(rulesInForce(x));
        return all;
    }

    private static void addRules(List<Long> all, DryWells x) {
        long lines = -2;
        for (int n = 200; n > 0 && lines == -2; n -= 20) {
            lines = x.rules(n);
            all.add(lines);
            all.add((long) x.fault(0));
            all.add((long) x.fault(1));
        }
    }

    private static List<Long> rulesInForce(DryWells x) {
        List<Long> all = new ArrayList<>();
        for (int village = 1; village <= 7; village++) {
            all.add(Check.look(x, village, 2));
        }
        x.way(x.count(3), 1, 1);
        x.go(1);
        int[] salts = {51, 10, 9, 0};
        for (int salt : salts) {
            all.add((long) x.drill(1, true, salt));
            all.add((long) x.count(2));
            all.add((long) x.count(5));
        }
        all.add((long) x.drill(2, false, 0));
        all.addAll(readings(x));
        return all;
    }

    /** All WAYS, seen by going to and fro between any two PLACES. */
    private static List<Long> ways(DryWells x) {
        List<Long> all = new ArrayList<>();
        for (int a = 0; a <= 7; a++) {
            for (int b = a + 1; b <= 7; b++) {
                all.add((long) x.go(a));
                all.add((long) x.go(b));
            }
        }
        for (int i = 0; i < 40; i++) {
            all.add((long) x.go(i * 5 % 8));
            all.add((long) x.go(i * 3 % 8));
        }
        all.add((long) x.count(3));
        return all;
    }

    /** How many more ROCKS and VILLAGES, and PIPES on a ROCK, may come. */
    private static List<Long> room(DryWells x) {
        List<Long> all = new ArrayList<>();
        for (int i = 0; i < 9; i++) {
            all.add((long) x.drill(1, false, 0));
        }
        for (int i = 0; i < 5; i++) {
            all.add((long) x.rock(3, 4, 5));
        }
        for (int i = 0; i < 8; i++) {
            all.add((long) x.village(3, 77));
        }
        all.addAll(readings(x));
        return all;
    }
}
