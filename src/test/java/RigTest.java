/** Promises 7 to 10, 17 and 18: VILLAGES, WAYS, the RIG and what is told of them. */
public final class RigTest {
    public static void main(String[] args) {
        villages();
        ways();
        going();
        drilling();
        drillingWrongly();
        pipesOnOneRock();
        givenUpMayBeDrilled();
        looking();
        lookingWrongly();
        counting();
        lastDay();
        Check.end("RigTest");
    }

    /** A ROCK with equal PRIORS, two VILLAGES on it, and the RIG at the first on DAY 1. */
    static DryWells rigAtVillage() {
        DryWells x = new DryWells();
        x.rock(1, 1, 1);
        x.village(0, 10);
        x.village(0, 20);
        x.way(0, 1, 1);
        x.way(1, 2, 2);
        x.go(1);
        return x;
    }

    private static void villages() {
        DryWells x = new DryWells();
        Check.due("village on no ROCK", x.village(0, 5), DryWells.NONE);
        x.rock(1, 1, 1);
        int[] wrong = {-1, Integer.MIN_VALUE, Integer.MAX_VALUE};
        for (int number : wrong) {
            Check.due("village, rock " + number, x.village(number, 5), DryWells.NONE);
            Check.due("village, people " + number, x.village(0, number), DryWells.NONE);
        }
        Check.due("village, rock 1", x.village(1, 5), DryWells.NONE);
        Check.due("village, people 0", x.village(0, 0), DryWells.NONE);
        Check.due("village, people 10000", x.village(0, 10000), DryWells.NONE);
        Check.due("no VILLAGE came", x.count(1), 0);
        for (int place = 1; place <= 7; place++) {
            Check.due("village " + place, x.village(0, place == 1 ? 1 : 9999), place);
        }
        Check.due("an eighth village", x.village(0, 5), DryWells.NONE);
        Check.due("seven VILLAGES", x.count(1), 7);
    }

    private static void ways() {
        DryWells x = rigAtVillage();
        int[] wrong = {-1, 3, Integer.MIN_VALUE, Integer.MAX_VALUE};
        for (int number : wrong) {
            Check.due("way, first " + number, x.way(number, 1, 1), false);
            Check.due("way, second " + number, x.way(1, number, 1), false);
            Check.due("way, both " + number, x.way(number, number, 1), false);
        }
        int[] noDays = {0, 10, -2, Integer.MIN_VALUE, Integer.MAX_VALUE};
        for (int days : noDays) {
            Check.due("way, days " + days, x.way(0, 2, days), false);
        }
        Check.due("way from 0 to 0", x.way(0, 0, 1), false);
        Check.due("way from 2 to 2, none", x.way(2, 2, DryWells.NONE), false);
        Check.due("go where no WAY came", x.go(2), 3);
        Check.due("there is no WAY still", x.go(0), DryWells.NONE);
        Check.due("way of 9", x.way(0, 2, 9), true);
        Check.due("the WAY the other way round", x.go(0), 12);
        Check.due("way changed", x.way(2, 0, 4), true);
        Check.due("the changed WAY", x.go(2), 16);
        Check.due("way taken away", x.way(2, 0, DryWells.NONE), true);
        Check.due("no WAY", x.go(0), DryWells.NONE);
        Check.due("way taken away again", x.way(0, 2, DryWells.NONE), true);
    }

    private static void going() {
        DryWells x = rigAtVillage();
        Check.due("go where it is", x.go(1), DryWells.NONE);
        Check.due("go -1", x.go(-1), DryWells.NONE);
        Check.due("go 3", x.go(3), DryWells.NONE);
        Check.due("go MIN", x.go(Integer.MIN_VALUE), DryWells.NONE);
        Check.due("go MAX", x.go(Integer.MAX_VALUE), DryWells.NONE);
        Check.due("nothing happened", x.count(2), 1);
        Check.due("go 0", x.go(0), 2);
        Check.due("at the DEPOT", x.count(3), 0);
        Check.due("straight alone, not over 1", x.go(2), DryWells.NONE);
        Check.due("at the DEPOT still", x.count(3), 0);
        x.go(1);
        Check.due("go 2", x.go(2), 5);
        Check.due("at 2", x.count(3), 2);
    }

    private static void drilling() {
        DryWells x = rigAtVillage();
        Check.due("no water", x.drill(3, false, -5), 0);
        Check.due("three DAYS", x.count(2), 4);
        Check.due("one bad hole", x.look(1, 3), 1);
        Check.due("dry", x.look(1, 2), 0);
        Check.due("no PIPES of a WELL", x.look(1, 4), DryWells.NONE);
        Check.due("a WELL", x.drill(2, true, 999), 1);
        Check.due("two DAYS", x.count(2), 6);
        Check.due("a WELL is there", x.look(1, 2), 1);
        Check.due("its PIPES", x.look(1, 4), 2);
        Check.due("bad holes stay", x.look(1, 3), 1);
        Check.due("no second WELL", x.drill(1, true, 0), DryWells.NONE);
        Check.due("no hole by a WELL", x.drill(1, false, 0), DryWells.NONE);
        Check.due("the other VILLAGE has none", x.look(2, 2), 0);
        x.go(2);
        Check.rulesOf(x, "salt 7;");
        Check.due("SALTED", x.drill(1, true, 8), 2);
        Check.due("SALTED is bad", x.look(2, 3), 1);
        Check.due("salt just so much", x.drill(1, true, 7), 1);
        Check.due("PIPES in all", x.count(5), 7);
    }

    private static void drillingWrongly() {
        DryWells x = new DryWells();
        Check.due("at the DEPOT", x.drill(1, false, 0), DryWells.NONE);
        x = rigAtVillage();
        int[] wrong = {0, -1, 5, Integer.MIN_VALUE, Integer.MAX_VALUE};
        for (int k : wrong) {
            Check.due("drill, k " + k, x.drill(k, false, 0), DryWells.NONE);
        }
        int[] salts = {-1, 1000, Integer.MIN_VALUE, Integer.MAX_VALUE};
        for (int salt : salts) {
            Check.due("drill, salt " + salt, x.drill(1, true, salt), DryWells.NONE);
        }
        Check.due("no DAYS", x.count(2), 1);
        Check.due("no PIPES", x.count(5), 0);
        Check.due("no hole", x.look(1, 3), 0);
        RocksTest.dueLikely(x, 0, 0, 1, 3);
        Check.due("salt isn't looked at without water", x.drill(1, false, 1000), 0);
    }

    private static void pipesOnOneRock() {
        DryWells x = rigAtVillage();
        x.rock(1, 1, 1);
        x.village(1, 30);
        x.way(2, 3, 1);
        Check.due("4 PIPES", x.drill(4, false, 0), 0);
        x.go(2);
        Check.due("7 PIPES", x.drill(3, false, 0), 0);
        Check.due("9 PIPES", x.drill(2, false, 0), DryWells.NONE);
        Check.due("8 PIPES", x.drill(1, false, 0), 0);
        Check.due("9 PIPES again", x.drill(1, true, 0), DryWells.NONE);
        Check.due("two bad holes", x.look(2, 3), 2);
        x.go(3);
        Check.due("another ROCK", x.drill(4, true, 0), 1);
        Check.due("PIPES of both", x.count(5), 12);
    }

    private static void givenUpMayBeDrilled() {
        DryWells x = rigAtVillage();
        Check.rulesOf(x, "dry 1;");
        x.drill(1, false, 0);
        Check.due("GIVEN UP", x.look(1, 2), 2);
        Check.due("drilled all the same", x.drill(1, false, 0), 0);
        Check.due("a WELL there", x.drill(1, true, 0), 1);
        Check.due("with a WELL", x.look(1, 2), 1);
        Check.due("two bad holes", x.look(1, 3), 2);
    }

    private static void looking() {
        DryWells x = rigAtVillage();
        x.rock(5, 5, 5);
        x.village(1, 4321);
        Check.due("ROCK", x.look(3, 0), 1);
        Check.due("PEOPLE", x.look(3, 1), 4321);
        Check.due("dry", x.look(3, 2), 0);
        Check.due("bad holes", x.look(3, 3), 0);
        Check.due("PIPES of the WELL", x.look(3, 4), DryWells.NONE);
        Check.due("END", x.look(3, 5), DryWells.NONE);
        Check.due("told to run", x.look(3, 6), 0);
        Check.due("ROCK of 1", x.look(1, 0), 0);
        Check.due("PEOPLE of 2", x.look(2, 1), 20);
    }

    private static void lookingWrongly() {
        DryWells x = rigAtVillage();
        int[] noVillage = {0, -1, 3, 8, Integer.MIN_VALUE, Integer.MAX_VALUE};
        for (int village : noVillage) {
            Check.dueThrow(x, village, 0, Check.THROWS_INDEX);
            Check.dueThrow(x, village, 7, Check.THROWS_INDEX);
        }
        int[] noWhat = {-1, 7, Integer.MIN_VALUE, Integer.MAX_VALUE};
        for (int what : noWhat) {
            Check.dueThrow(x, 1, what, Check.THROWS_ELEMENT);
        }
        Check.due("look at the last", x.look(2, 6), 0);
    }

    private static void counting() {
        DryWells x = rigAtVillage();
        x.rock(1, 1, 1);
        Check.due("ROCKS", x.count(0), 2);
        Check.due("VILLAGES", x.count(1), 2);
        Check.due("the DAY", x.count(2), 1);
        Check.due("the PLACE", x.count(3), 1);
        Check.due("PEOPLE with water", x.count(4), 0);
        x.drill(3, true, 0);
        Check.due("PEOPLE with water", x.count(4), 10);
        x.go(2);
        x.drill(1, false, 0);
        Check.due("PEOPLE with water", x.count(4), 10);
        x.drill(1, true, 0);
        Check.due("PEOPLE with water", x.count(4), 30);
        x.visit(1, 1, false);
        Check.due("PEOPLE by a WELL that ENDED", x.count(4), 30);
        Check.due("PIPES", x.count(5), 5);
        int[] wrong = {-1, 6, Integer.MIN_VALUE, Integer.MAX_VALUE};
        for (int what : wrong) {
            Check.due("count(" + what + ")", x.count(what), DryWells.NONE);
        }
    }

    /** DAY 9999 lies behind the 512th call, where answers are free: the limit is kept even there. */
    private static void lastDay() {
        DryWells x = rigAtVillage();
        x.way(0, 1, 9);
        for (int i = 0; i < 1110; i++) {
            x.go(i % 2);
        }
        Check.due("DAY 9991", x.count(2), 9991);
        Check.due("at VILLAGE 1", x.count(3), 1);
        Check.due("beyond by a WAY", x.go(0), DryWells.NONE);
        Check.rulesOf(x, "rest 6;");
        Check.due("beyond by a rest", x.drill(3, false, 0), DryWells.NONE);
        Check.due("DAY 9999", x.drill(2, false, 0), 0);
        Check.due("the last DAY", x.count(2), 9999);
        x.rules(0);
        Check.due("beyond by a PIPE", x.drill(1, false, 0), DryWells.NONE);
        DryWells y = rigAtVillage();
        y.way(0, 1, 9);
        for (int i = 0; i < 1110; i++) {
            y.go(i % 2);
        }
        y.way(0, 1, 8);
        Check.due("DAY 9999 by a WAY", y.go(0), 9999);
        Check.due("no DAY behind it", y.go(1), DryWells.NONE);
    }
}
