import java.util.List;
import java.util.function.Supplier;
import java.util.function.ToLongFunction;

/**
 * Every call that the document refuses, by promise: its answer, and that all stays as it was. Numbers
 * beyond a range are taken just below and above it, and at both ends of int. (Beyond DAY 9999: EdgesRigTest.)
 */
public final class RefusedTest {
    private static final int MIN = Integer.MIN_VALUE;
    private static final int MAX = Integer.MAX_VALUE;
    private static final int NONE = DryWells.NONE;

    private static final List<Supplier<DryWells>> WORLDS = List.of(Worlds::fresh, Worlds::busy, Worlds::full);

    public static void main(String[] args) {
        feedBeyond200();
        rulesOfNoSuchLength();
        noSuchFault();
        noSuchPriors();
        fifthRock();
        noSuchChance();
        noSuchRockOrPeople();
        eighthVillage();
        noSuchPlaces();
        samePlaces();
        noSuchDays();
        goToNoPlace();
        goWhereItIs();
        goWithoutWay();
        drillAtDepot();
        drillAtWell();
        drillNoSuchPipes();
        drillNoSuchSalt();
        drillTooManyPipes();
        likelyOfNone();
        hopeOfNone();
        planForNoSuchNumbers();
        plannedOfNone();
        visitToNone();
        stillOfNone();
        lookAtNone();
        countOfNone();
        Check.end("RefusedTest");
    }

    /** The call is refused in a new, a busy and a full object alike. */
    private static void everywhere(String call, ToLongFunction<DryWells> made, long due) {
        for (Supplier<DryWells> world : WORLDS) {
            Twins.unchanged(call, world, made, due);
        }
    }

    private static long bit(boolean answer) {
        return answer ? 1 : 0;
    }

    // 2: "NONE, and none come, if it would have more than 200"
    private static void feedBeyond200() {
        Twins.unchanged("feed at 200", Worlds::full, x -> x.feed(1, 2, 3, 4, 5), NONE);
        Twins.unchanged("feed at 200", Worlds::full, x -> x.feed(MIN, MAX, -1, 0, 0x3b3b3b3b), NONE);
    }

    // 3: "-2, and the TAPE stays: there are not so many, n is below 0"
    private static void rulesOfNoSuchLength() {
        for (int n : new int[] {-1, -2, MIN, 201, MAX}) {
            everywhere("rules(" + n + ")", x -> x.rules(n), -2);
        }
        Twins.unchanged("rules(1) of an empty TAPE", Worlds::fresh, x -> x.rules(1), -2);
        Twins.unchanged("rules(41) of 40", Worlds::busy, x -> x.rules(41), -2);
    }

    // 4: "NONE for another what"
    private static void noSuchFault() {
        for (int what : new int[] {-1, 2, MIN, MAX}) {
            everywhere("fault(" + what + ")", x -> x.fault(what), NONE);
        }
    }

    // 5: "NONE: no such ones" (PRIORS 1 .. 99)
    private static void noSuchPriors() {
        for (int prior : new int[] {0, 100, -1, MIN, MAX}) {
            everywhere("rock, first " + prior, x -> x.rock(prior, 1, 99), NONE);
            everywhere("rock, second " + prior, x -> x.rock(1, prior, 99), NONE);
            everywhere("rock, third " + prior, x -> x.rock(99, 1, prior), NONE);
        }
    }

    // 5: "or there are 4"
    private static void fifthRock() {
        Twins.unchanged("a fifth ROCK", Worlds::full, x -> x.rock(1, 1, 1), NONE);
        Twins.unchanged("a fifth ROCK", Worlds::full, x -> x.rock(99, 99, 99), NONE);
    }

    // 6: "false: no such QUALITY (0 .. 2), PIPE, number"
    private static void noSuchChance() {
        for (int quality : new int[] {-1, 3, MIN, MAX}) {
            everywhere("chance, quality " + quality, x -> bit(x.chance(quality, 1, 9)), 0);
        }
        for (int pipe : new int[] {0, 5, -1, MIN, MAX}) {
            everywhere("chance, pipe " + pipe, x -> bit(x.chance(1, pipe, 9)), 0);
        }
        for (int of16 : new int[] {-1, 16, MIN, MAX}) {
            everywhere("chance, of16 " + of16, x -> bit(x.chance(1, 1, of16)), 0);
        }
    }

    // 7: "NONE: no such ROCK, PEOPLE"
    private static void noSuchRockOrPeople() {
        for (int rock : new int[] {-1, 4, MIN, MAX}) {
            everywhere("village, rock " + rock, x -> x.village(rock, 5), NONE);
        }
        Twins.unchanged("village, rock 0 of none", Worlds::fresh, x -> x.village(0, 5), NONE);
        Twins.unchanged("village, rock 2 of two", Worlds::busy, x -> x.village(2, 5), NONE);
        for (int people : new int[] {0, 10000, -1, MIN, MAX}) {
            everywhere("village, people " + people, x -> x.village(0, people), NONE);
        }
    }

    // 7: "or there are 7"
    private static void eighthVillage() {
        Twins.unchanged("an eighth VILLAGE", Worlds::full, x -> x.village(0, 1), NONE);
        Twins.unchanged("an eighth VILLAGE", Worlds::full, x -> x.village(3, 9999), NONE);
    }

    // 8: "false: no such PLACES"
    private static void noSuchPlaces() {
        for (int place : new int[] {-1, 8, MIN, MAX}) {
            everywhere("way from " + place, x -> bit(x.way(place, 0, 1)), 0);
            everywhere("way to " + place, x -> bit(x.way(0, place, NONE)), 0);
        }
        Twins.unchanged("way to 1 of none", Worlds::fresh, x -> bit(x.way(0, 1, 1)), 0);
        Twins.unchanged("way to 5 of four", Worlds::busy, x -> bit(x.way(1, 5, 1)), 0);
        Twins.unchanged("way from 5 of four", Worlds::busy, x -> bit(x.way(5, 1, NONE)), 0);
    }

    // 8: "both the same"
    private static void samePlaces() {
        for (int place : new int[] {0, 1, 7, 8, -1, MIN, MAX}) {
            everywhere("way from " + place + " to itself", x -> bit(x.way(place, place, 1)), 0);
            everywhere("no way from " + place + " to itself", x -> bit(x.way(place, place, NONE)), 0);
        }
    }

    // 8: "no such DAYS" (1 .. 9, or NONE)
    private static void noSuchDays() {
        for (int days : new int[] {0, 10, -2, MIN, MAX}) {
            everywhere("way of " + days, x -> bit(x.way(0, 1, days)), 0);
            everywhere("way of " + days, x -> bit(x.way(2, 0, days)), 0);
        }
    }

    // 9: "NONE: no such PLACE"
    private static void goToNoPlace() {
        for (int place : new int[] {-1, 8, MIN, MAX}) {
            everywhere("go(" + place + ")", x -> x.go(place), NONE);
        }
        Twins.unchanged("go(1) of none", Worlds::fresh, x -> x.go(1), NONE);
        Twins.unchanged("go(5) of four", Worlds::busy, x -> x.go(5), NONE);
    }

    // 9: "it is there"
    private static void goWhereItIs() {
        everywhere("go where it is", x -> x.go(x.count(3)), NONE);
    }

    // 9: "there is no WAY"
    private static void goWithoutWay() {
        Twins.unchanged("go(0) from 3, straight", Worlds::busy, x -> x.go(0), NONE);
        Twins.unchanged("go(4) from 0, straight", Worlds::full, x -> x.go(4), NONE);
    }

    // 10: "NONE, and nothing happens: it is at no VILLAGE"
    private static void drillAtDepot() {
        Twins.unchanged("drill in a new object", Worlds::fresh, x -> x.drill(1, true, 0), NONE);
        Twins.unchanged("drill at the DEPOT", Worlds::full, x -> x.drill(1, true, 0), NONE);
        Twins.unchanged("drill at the DEPOT", Worlds::full, x -> x.drill(4, false, 0), NONE);
    }

    // 10: "that has a WELL"
    private static void drillAtWell() {
        Twins.unchanged("drill by a WELL", Worlds::atWell, x -> x.drill(1, true, 0), NONE);
        Twins.unchanged("drill by a WELL", Worlds::atWell, x -> x.drill(1, true, 999), NONE);
        Twins.unchanged("drill by a WELL", Worlds::atWell, x -> x.drill(1, false, 0), NONE);
    }

    // 10: "no such k"
    private static void drillNoSuchPipes() {
        for (int k : new int[] {0, 5, -1, MIN, MAX}) {
            Twins.unchanged("drill, k " + k, Worlds::busy, x -> x.drill(k, true, 0), NONE);
            Twins.unchanged("drill, k " + k, Worlds::busy, x -> x.drill(k, false, 0), NONE);
        }
    }

    // 10: "salt" (0 .. 999, looked at with water alone)
    private static void drillNoSuchSalt() {
        for (int salt : new int[] {-1, 1000, MIN, MAX}) {
            Twins.unchanged("drill, salt " + salt, Worlds::busy, x -> x.drill(1, true, salt), NONE);
            Twins.unchanged("drill, salt " + salt, Worlds::sixPipes, x -> x.drill(2, true, salt), NONE);
        }
    }

    // 10: "too many PIPES on that ROCK" (8 in all)
    private static void drillTooManyPipes() {
        Twins.unchanged("9 PIPES", Worlds::sixPipes, x -> x.drill(3, false, 0), NONE);
        Twins.unchanged("9 PIPES", Worlds::sixPipes, x -> x.drill(3, true, 0), NONE);
        Twins.unchanged("10 PIPES", Worlds::sixPipes, x -> x.drill(4, true, 1), NONE);
    }

    // 11: "NONE: no such ROCK, QUALITY, what"
    private static void likelyOfNone() {
        for (int what = 0; what <= 1; what++) {
            int which = what;
            for (int rock : new int[] {-1, 4, MIN, MAX}) {
                everywhere("likely, rock " + rock, x -> x.likely(rock, 0, which), NONE);
            }
            for (int quality : new int[] {-1, 3, MIN, MAX}) {
                everywhere("likely, quality " + quality, x -> x.likely(0, quality, which), NONE);
            }
            Twins.unchanged("likely, rock 2 of two", Worlds::busy, x -> x.likely(2, 0, which), NONE);
            Twins.unchanged("likely of no ROCKS", Worlds::fresh, x -> x.likely(0, 0, which), NONE);
        }
        for (int what : new int[] {-1, 2, MIN, MAX}) {
            everywhere("likely, what " + what, x -> x.likely(0, 0, what), NONE);
        }
    }

    // 12: "NONE: no such VILLAGE, depth"
    private static void hopeOfNone() {
        for (int village : new int[] {0, -1, 8, MIN, MAX}) {
            everywhere("hope, village " + village, x -> x.hope(village, 1), NONE);
        }
        Twins.unchanged("hope, village 1 of none", Worlds::fresh, x -> x.hope(1, 1), NONE);
        Twins.unchanged("hope, village 5 of four", Worlds::busy, x -> x.hope(5, 4), NONE);
        for (int depth : new int[] {0, 5, -1, MIN, MAX}) {
            everywhere("hope, depth " + depth, x -> x.hope(1, depth), NONE);
        }
    }

    // 13: "NONE: no such P, D" (0 .. 28, 0 .. 99); 14: "the latest plan() that told a WORTH" stays
    private static void planForNoSuchNumbers() {
        for (int number : new int[] {-1, MIN, MAX}) {
            everywhere("plan, pipes " + number, x -> x.plan(number, 50), NONE);
            everywhere("plan, days " + number, x -> x.plan(10, number), NONE);
        }
        everywhere("plan, pipes 29", x -> x.plan(29, 99), NONE);
        everywhere("plan, days 100", x -> x.plan(28, 100), NONE);
    }

    // 14: "NONE if there is none such", "NONE ahead of any", "NONE for another what"
    private static void plannedOfNone() {
        for (int what = 0; what <= 4; what++) {
            int which = what;
            Twins.unchanged("planned ahead of any", Worlds::fresh, x -> x.planned(which, 0), NONE);
            Twins.unchanged("planned ahead of any", Worlds::full, x -> x.planned(which, 0), NONE);
        }
        for (int k : new int[] {-1, 7, MIN, MAX}) {
            everywhere("planned, VILLAGE " + k, x -> x.planned(0, k), NONE);
            everywhere("planned, depth " + k, x -> x.planned(1, k), NONE);
        }
        for (int what : new int[] {-1, 5, MIN, MAX}) {
            everywhere("planned, what " + what, x -> x.planned(what, 0), NONE);
        }
    }

    // 15: "false: it has none, no such AGE"
    private static void visitToNone() {
        for (int village : new int[] {0, -1, 2, 8, MIN, MAX}) {
            everywhere("visit to " + village, x -> bit(x.visit(village, 1, false)), 0);
            everywhere("visit to " + village, x -> bit(x.visit(village, 30, true)), 0);
        }
        Twins.unchanged("visit to 5 of four", Worlds::busy, x -> bit(x.visit(5, 1, true)), 0);
        for (int age : new int[] {0, 31, -1, MIN, MAX}) {
            Twins.unchanged("visit, age " + age, Worlds::busy, x -> bit(x.visit(1, age, false)), 0);
            Twins.unchanged("visit, age " + age, Worlds::atWell, x -> bit(x.visit(1, age, true)), 0);
        }
    }

    // 16: "NONE: no such AGE, what"
    private static void stillOfNone() {
        for (int age : new int[] {0, 31, -1, MIN, MAX}) {
            everywhere("still, age " + age, x -> x.still(age, 0), NONE);
            everywhere("still, age " + age, x -> x.still(age, 1), NONE);
        }
        for (int what : new int[] {-1, 2, MIN, MAX}) {
            everywhere("still, what " + what, x -> x.still(30, what), NONE);
        }
    }

    // 17: "IndexOutOfBoundsException: no such VILLAGE. NoSuchElementException: no such what."
    private static void lookAtNone() {
        for (int village : new int[] {0, -1, 8, MIN, MAX}) {
            everywhere("look at " + village, x -> Check.look(x, village, 0), Check.THROWS_INDEX);
        }
        Twins.unchanged("look at 1 of none", Worlds::fresh, x -> Check.look(x, 1, 0), Check.THROWS_INDEX);
        Twins.unchanged("look at 5 of four", Worlds::busy, x -> Check.look(x, 5, 6), Check.THROWS_INDEX);
        for (int what : new int[] {-1, 7, MIN, MAX}) {
            Twins.unchanged("look, what " + what, Worlds::busy, x -> Check.look(x, 1, what), Check.THROWS_ELEMENT);
            Twins.unchanged("look, what " + what, Worlds::full, x -> Check.look(x, 7, what), Check.THROWS_ELEMENT);
        }
    }

    // 18: "NONE for another what"
    private static void countOfNone() {
        for (int what : new int[] {-1, 6, MIN, MAX}) {
            everywhere("count(" + what + ")", x -> x.count(what), NONE);
        }
    }
}
