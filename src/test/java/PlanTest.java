/** Promises 13 and 14: the PLAN by all its rules of choice, and what is told of it. */
public final class PlanTest {
    public static void main(String[] args) {
        wrongNumbers();
        plannedWrongly();
        nothingToPlan();
        limits();
        fewestPipesAmongEquals();
        fewestDaysAmongEquals();
        firstDepthsAmongEquals();
        firstDepthsOfOtherSets();
        firstOrderAmongEquals();
        straightWaysAlone();
        steppingStone();
        rigAtVillage();
        rigGoesRoundBack();
        restForEachHole();
        wellsAndGivenUp();
        plannedStaysAsItWas();
        Check.end("PlanTest");
    }

    /** Villages on one ROCK of HOPE 8, 12, 14, 15 of 16, with so many PEOPLE each, and no WAYS. */
    private static DryWells villages(int... people) {
        DryWells x = new DryWells();
        x.rock(1, 1, 1);
        for (int quality = 0; quality <= 2; quality++) {
            for (int pipe = 1; pipe <= 4; pipe++) {
                x.chance(quality, pipe, 8);
            }
        }
        for (int number : people) {
            x.village(0, number);
        }
        return x;
    }

    private static long parts(int of16) {
        return (long) of16 << 16;
    }

    /** What was planned: PIPES, DAYS, then each VILLAGE and its depth. */
    private static void duePlanned(DryWells x, int pipes, int days, int... stops) {
        Check.due("PIPES in all", x.planned(2, -7), pipes);
        Check.due("DAYS in all", x.planned(3, 99), days);
        Check.due("VILLAGES in it", x.planned(4, 0), stops.length / 2);
        for (int k = 0; k < stops.length / 2; k++) {
            Check.due("VILLAGE " + k, x.planned(0, k), stops[2 * k]);
            Check.due("depth " + k, x.planned(1, k), stops[2 * k + 1]);
        }
        Check.due("no VILLAGE behind the last", x.planned(0, stops.length / 2), DryWells.NONE);
        Check.due("no depth behind the last", x.planned(1, stops.length / 2), DryWells.NONE);
    }

    private static void wrongNumbers() {
        DryWells x = villages(10);
        int[] wrong = {-1, Integer.MIN_VALUE, Integer.MAX_VALUE};
        for (int number : wrong) {
            Check.due("plan, pipes " + number, x.plan(number, 5), DryWells.NONE);
            Check.due("plan, days " + number, x.plan(5, number), DryWells.NONE);
        }
        Check.due("plan, pipes 29", x.plan(29, 5), DryWells.NONE);
        Check.due("plan, days 100", x.plan(5, 100), DryWells.NONE);
        Check.due("no plan yet", x.planned(4, 0), DryWells.NONE);
        Check.due("plan, pipes 28, days 99", x.plan(28, 99), 0);
    }

    private static void plannedWrongly() {
        DryWells x = villages(10);
        x.way(0, 1, 1);
        for (int what = -1; what <= 6; what++) {
            Check.due("planned ahead of any", x.planned(what, 0), DryWells.NONE);
        }
        x.plan(1, 9);
        int[] wrong = {-1, 5, Integer.MIN_VALUE, Integer.MAX_VALUE};
        for (int number : wrong) {
            Check.due("planned, what " + number, x.planned(number, 0), DryWells.NONE);
            Check.due("planned, VILLAGE " + number, x.planned(0, number), DryWells.NONE);
            Check.due("planned, depth " + number, x.planned(1, number), DryWells.NONE);
            Check.due("planned, PIPES, k " + number, x.planned(2, number), 1);
        }
    }

    private static void nothingToPlan() {
        DryWells x = new DryWells();
        Check.due("no VILLAGES", x.plan(28, 99), 0);
        duePlanned(x, 0, 0);
        x = villages(10, 20);
        Check.due("no WAYS", x.plan(28, 99), 0);
        duePlanned(x, 0, 0);
    }

    private static void limits() {
        DryWells x = villages(10);
        x.way(0, 1, 3);
        Check.due("no PIPES", x.plan(0, 99), 0);
        Check.due("three DAYS", x.plan(28, 3), 0);
        duePlanned(x, 0, 0);
        Check.due("four DAYS", x.plan(28, 4), 10 * parts(8));
        duePlanned(x, 1, 4, 1, 1);
        Check.due("two PIPES", x.plan(2, 99), 10 * parts(12));
        duePlanned(x, 2, 5, 1, 2);
        Check.due("all PIPES", x.plan(28, 99), 10 * parts(15));
        duePlanned(x, 4, 7, 1, 4);
        DryWells y = villages(9999, 9999, 9999, 9999, 9999, 9999, 9999);
        for (int place = 1; place <= 7; place++) {
            y.way(place - 1, place, 9);
        }
        Check.due("all VILLAGES, all PIPES", y.plan(28, 99), 7L * 9999 * parts(15));
        duePlanned(y, 28, 91, 1, 4, 2, 4, 3, 4, 4, 4, 5, 4, 6, 4, 7, 4);
        Check.due("a DAY too few", y.plan(28, 90), 9999L * (6 * parts(15) + parts(14)));
        duePlanned(y, 27, 90, 1, 3, 2, 4, 3, 4, 4, 4, 5, 4, 6, 4, 7, 4);
    }

    private static void fewestPipesAmongEquals() {
        DryWells x = villages(10);
        x.way(0, 1, 1);
        for (int quality = 0; quality <= 2; quality++) {
            x.chance(quality, 3, 0);
            x.chance(quality, 4, 0);
        }
        Check.due("no good below 2 PIPES", x.plan(4, 99), 10 * parts(12));
        duePlanned(x, 2, 3, 1, 2);
        // 10 PEOPLE with 2 PIPES are as good as 15 with 1: 15 * 8 = 10 * 12.
        DryWells y = villages(10, 15);
        y.way(0, 1, 1);
        y.way(0, 2, 9);
        Check.due("one PIPE of many DAYS", y.plan(2, 10), 15 * parts(8));
        duePlanned(y, 1, 10, 2, 1);
    }

    private static void fewestDaysAmongEquals() {
        DryWells x = villages(10, 10);
        x.way(0, 1, 5);
        x.way(0, 2, 4);
        Check.due("the nearer one", x.plan(1, 99), 10 * parts(8));
        duePlanned(x, 1, 5, 2, 1);
        DryWells y = villages(20, 21, 22);
        y.way(0, 1, 1);
        y.way(0, 2, 9);
        y.way(0, 3, 1);
        y.way(1, 2, 9);
        y.way(2, 3, 1);
        y.way(1, 3, 2);
        Check.due("the shortest order", y.plan(3, 99), 63 * parts(8));
        duePlanned(y, 3, 7, 1, 1, 3, 1, 2, 1);
    }

    private static void firstDepthsAmongEquals() {
        DryWells x = villages(10, 10, 10);
        x.way(0, 1, 1);
        x.way(0, 2, 1);
        x.way(0, 3, 1);
        Check.due("the last VILLAGE", x.plan(1, 99), 10 * parts(8));
        duePlanned(x, 1, 2, 3, 1);
        // 8, 12, 14 by both: 1 + 2 PIPES lie ahead of 2 + 1.
        DryWells y = villages(10, 10);
        y.way(0, 1, 1);
        y.way(1, 2, 1);
        Check.due("the lesser depth ahead", y.plan(3, 99), 10 * parts(20));
        duePlanned(y, 3, 5, 1, 1, 2, 2);
        // The same with sets that differ: 2 and 3 or 1 and 3 in as many DAYS.
        DryWells z = villages(10, 10, 12);
        z.way(0, 3, 1);
        z.way(3, 1, 1);
        z.way(3, 2, 1);
        Check.due("the set ahead by depths", z.plan(2, 99), 22 * parts(8));
        duePlanned(z, 2, 4, 3, 1, 2, 1);
    }

    /** 20 PEOPLE with 2 PIPES are as good as 30 with 1 each, and here take as many DAYS. */
    private static void firstDepthsOfOtherSets() {
        DryWells x = villages(10, 20);
        x.way(0, 1, 1);
        x.way(1, 2, 3);
        x.go(1);
        Check.due("depths 0 and 2 ahead of 1 and 1", x.plan(2, 99), 20 * parts(12));
        duePlanned(x, 2, 5, 2, 2);
    }

    private static void firstOrderAmongEquals() {
        DryWells x = villages(20, 21, 22);
        for (int a = 0; a <= 3; a++) {
            for (int b = a + 1; b <= 3; b++) {
                x.way(a, b, 2);
            }
        }
        Check.due("all alike", x.plan(3, 99), 63 * parts(8));
        duePlanned(x, 3, 9, 1, 1, 2, 1, 3, 1);
        x.way(0, 1, DryWells.NONE);
        Check.due("not first to 1", x.plan(3, 99), 63 * parts(8));
        duePlanned(x, 3, 9, 2, 1, 1, 1, 3, 1);
        x.way(2, 1, DryWells.NONE);
        Check.due("nor from 2 to 1", x.plan(3, 99), 63 * parts(8));
        duePlanned(x, 3, 9, 2, 1, 3, 1, 1, 1);
    }

    private static void straightWaysAlone() {
        DryWells x = villages(10, 10);
        x.way(0, 1, 1);
        x.way(0, 2, 1);
        Check.due("not back over the DEPOT", x.plan(2, 99), 10 * parts(12));
        duePlanned(x, 2, 3, 2, 2);
    }

    private static void steppingStone() {
        DryWells x = villages(1, 9999);
        x.rock(1, 1, 1);
        x.way(0, 1, 1);
        x.way(1, 2, 1);
        Check.due("only over VILLAGE 1", x.plan(2, 99), 10000 * parts(8));
        duePlanned(x, 2, 4, 1, 1, 2, 1);
        Check.due("one PIPE is not enough", x.plan(1, 99), parts(8));
        duePlanned(x, 1, 2, 1, 1);
        // A VILLAGE without HOPE is drilled only where it leads on to another.
        DryWells y = withoutHopeAtOne();
        Check.due("no HOPE at 1, on to 2", y.plan(3, 99), 7 * (1L << 19));
        duePlanned(y, 2, 5, 1, 1, 2, 1);
        y.way(0, 2, 9);
        Check.due("rather fewer PIPES", y.plan(3, 99), 7 * (1L << 19));
        duePlanned(y, 1, 10, 2, 1);
    }

    /** VILLAGE 1 on a ROCK where nothing is LIKELY, VILLAGE 2 behind it with HOPE one half. */
    private static DryWells withoutHopeAtOne() {
        DryWells x = new DryWells();
        x.rock(1, 1, 1);
        x.rock(1, 1, 1);
        x.village(0, 5);
        x.village(1, 7);
        x.way(0, 1, 1);
        x.way(1, 2, 2);
        Check.rulesOf(x, "salt 0;");
        x.go(1);
        x.drill(2, true, 1);
        x.go(0);
        for (int quality = 0; quality <= 2; quality++) {
            x.chance(quality, 1, 8);
        }
        Check.due("no HOPE at 1", x.hope(1, 4), 0);
        return x;
    }

    private static void rigAtVillage() {
        DryWells x = villages(10, 19);
        x.way(0, 1, 1);
        x.way(1, 2, 3);
        x.go(1);
        Check.due("without a WAY to the first", x.plan(1, 1), 10 * parts(8));
        duePlanned(x, 1, 1, 1, 1);
        Check.due("both", x.plan(2, 99), 29 * parts(8));
        duePlanned(x, 2, 5, 1, 1, 2, 1);
        Check.due("the other alone", x.plan(1, 99), 19 * parts(8));
        duePlanned(x, 1, 4, 2, 1);
    }

    /** From 1 to 2, back to drill at 1, and on to 3: 2 and 3 have no WAY between them. */
    private static void rigGoesRoundBack() {
        DryWells x = villages(10, 20, 30);
        x.way(0, 1, 1);
        x.way(1, 2, 2);
        x.way(1, 3, 3);
        x.go(1);
        Check.due("the RIG's PLACE in the middle", x.plan(3, 99), 60 * parts(8));
        duePlanned(x, 3, 10, 2, 1, 1, 1, 3, 1);
    }

    private static void restForEachHole() {
        DryWells x = villages(10, 20);
        x.way(0, 1, 1);
        x.way(1, 2, 1);
        Check.rulesOf(x, "rest 4;");
        Check.due("two rests", x.plan(2, 12), 30 * parts(8));
        duePlanned(x, 2, 12, 1, 1, 2, 1);
        Check.due("a DAY too few for both", x.plan(2, 11), 10 * parts(12));
        duePlanned(x, 2, 7, 1, 2);
    }

    private static void wellsAndGivenUp() {
        DryWells x = villages(10, 20, 30);
        x.way(0, 1, 1);
        x.way(1, 2, 1);
        x.way(2, 3, 1);
        x.go(1);
        x.drill(1, true, 0);
        Check.due("not where a WELL is", x.plan(28, 99), 50 * parts(15));
        duePlanned(x, 8, 10, 2, 4, 3, 4);
        x.go(2);
        Check.rulesOf(x, "dry 1;");
        x.drill(1, false, 0);
        Check.due("not where it is GIVEN UP", x.plan(28, 99), 30 * parts(15));
        duePlanned(x, 4, 5, 3, 4);
        x.rules(0);
        Check.due("no more GIVEN UP", x.plan(28, 99), 50 * parts(15));
        duePlanned(x, 8, 9, 2, 4, 3, 4);
        x.go(1);
        Check.rulesOf(x, "dry 1;");
        Check.due("no WAY over a GIVEN UP one", x.plan(28, 99), 0);
        duePlanned(x, 0, 0);
    }

    private static void plannedStaysAsItWas() {
        DryWells x = villages(10, 20);
        x.way(0, 1, 1);
        x.way(1, 2, 1);
        x.plan(2, 99);
        x.plan(29, 0);
        x.plan(0, -1);
        x.way(1, 2, DryWells.NONE);
        x.go(1);
        x.drill(1, true, 0);
        x.chance(0, 1, 0);
        Check.rulesOf(x, "rest 9;");
        duePlanned(x, 2, 4, 1, 1, 2, 1);
        x.plan(0, 0);
        duePlanned(x, 0, 0);
    }
}
