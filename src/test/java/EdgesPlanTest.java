/** The edges in the sentences of promises 13 and 14 and of a PLAN's Terms, each by a test of its own. */
public final class EdgesPlanTest {
    private static final int NONE = DryWells.NONE;
    // What each further PIPE adds to HOPE, of 16, where every CHANCE is 8.
    private static final int[] ADDS = {8, 4, 2, 1};

    public static void main(String[] args) {
        pipesAndDaysAtTheirEnds();
        planOfNoVillages();
        noPipesOrNoDays();
        pipesInAllAtMost();
        depthAtMostFour();
        daysInAllAtMost();
        wayPipeAndRestAreDays();
        ninetyNineDays();
        noWayThere();
        waysTakenAway();
        neverOverTheDepot();
        neverOverOneThatIsNotInIt();
        everyOneOnTheWayTakesAPipe();
        longWayRatherThanOver();
        notWhereAWellIs();
        notWhereGivenUp();
        fromWhereTheRigIs();
        rigAtOneOfThem();
        rigAtOneWithoutWays();
        rigAtOneThatIsNotInIt();
        rigComesBackByAWay();
        worthBeyondInt();
        worthOfHopeThatIsCut();
        worthOfNoHope();
        hopeCutToNothing();
        fewestPipes();
        fewestPipesByCutHope();
        fewestDays();
        fewestDaysOfOtherSets();
        firstByDepths();
        firstByDepthsOfAll();
        firstByDepthsOfOtherSets();
        firstOrder();
        firstOrderOfSeven();
        pipesOfTheRockAreNotLookedAt();
        plannedAheadOfAny();
        plannedAtItsEnds();
        plannedWithoutLookingAtK();
        plannedOfAnotherWhat();
        plannedBehindRefused();
        plannedBehindNoWorth();
        plannedAsItWasThen();
        Check.end("EdgesPlanTest");
    }

    /** VILLAGES with so many PEOPLE, WAYS of so many DAYS between any two PLACES (0: none). */
    private static DryWells villages(int days, int... people) {
        DryWells x = new DryWells();
        x.rock(1, 1, 1);
        for (int i = 0; i < 12; i++) {
            x.chance(i / 4, i % 4 + 1, 8);
        }
        for (int number : people) {
            x.village(0, number);
        }
        for (int a = 0; days > 0 && a <= people.length; a++) {
            for (int b = a + 1; b <= people.length; b++) {
                x.way(a, b, days);
            }
        }
        return x;
    }

    private static long parts(int of16) {
        return (long) of16 << 16;
    }

    /** The WORTH, in parts of 16 of one of the PEOPLE; PIPES and DAYS; then each VILLAGE and its depth. */
    private static void duePlan(DryWells x, int pipes, int days, long worth, int... told) {
        String call = "plan(" + pipes + ", " + days + ")";
        Check.due(call, x.plan(pipes, days), worth << 16);
        duePlanned(x, call, told);
    }

    private static void duePlanned(DryWells x, String call, int... told) {
        int stops = told.length / 2 - 1;
        Check.due(call + ": PIPES", x.planned(2, 0), told[0]);
        Check.due(call + ": DAYS", x.planned(3, 0), told[1]);
        Check.due(call + ": VILLAGES", x.planned(4, 0), stops);
        for (int k = 0; k < 8; k++) {
            Check.due(call + ": VILLAGE " + k, x.planned(0, k), k < stops ? told[2 * k + 2] : NONE);
            Check.due(call + ": depth " + k, x.planned(1, k), k < stops ? told[2 * k + 3] : NONE);
        }
    }

    // Terms: "P PIPES (0 .. 28) and D DAYS (0 .. 99)"; 13: "NONE: no such P, D"
    private static void pipesAndDaysAtTheirEnds() {
        DryWells x = villages(1, 10);
        for (int pipes = -2; pipes <= 30; pipes++) {
            boolean right = pipes >= 0 && pipes <= 28;
            Check.due("plan(" + pipes + ", 0)", x.plan(pipes, 0), right ? 0 : NONE);
        }
        for (int days = -2; days <= 101; days++) {
            boolean right = days >= 0 && days <= 99;
            Check.due("plan(0, " + days + ")", x.plan(0, days), right ? 0 : NONE);
        }
        Check.due("plan(28, 99)", x.plan(28, 99), 10 * parts(15));
        Check.due("plan(29, 100)", x.plan(29, 100), NONE);
        Check.due("plan(-1, -1)", x.plan(-1, -1), NONE);
    }

    private static void planOfNoVillages() {
        DryWells x = new DryWells();
        for (int pipes = 0; pipes <= 28; pipes += 28) {
            for (int days = 0; days <= 99; days += 99) {
                duePlan(x, pipes, days, 0, 0, 0);
            }
        }
        x.rock(1, 1, 1);
        duePlan(x, 28, 99, 0, 0, 0);
    }

    private static void noPipesOrNoDays() {
        DryWells x = villages(1, 10);
        x.go(1);
        duePlan(x, 0, 99, 0, 0, 0);
        duePlan(x, 28, 0, 0, 0, 0);
        duePlan(x, 1, 1, 10 * 8, 1, 1, 1, 1);
    }

    // Terms: "P in all at most", for each P: what a PIPE adds grows less with the depth
    private static void pipesInAllAtMost() {
        DryWells x = villages(1, 10, 10, 10, 10, 10, 10, 10);
        long worth = 0;
        for (int pipes = 0; pipes <= 28; pipes++) {
            Check.due("plan(" + pipes + ", 99)", x.plan(pipes, 99), 10 * parts(1) * worth);
            Check.due("PIPES in all", x.planned(2, 0), pipes);
            Check.due("VILLAGES", x.planned(4, 0), Math.min(7, pipes));
            Check.due("DAYS in all", x.planned(3, 0), pipes + Math.min(7, pipes));
            worth += pipes < 28 ? ADDS[pipes / 7] : 0;
        }
    }

    // Terms: "a depth 0 .. 4"
    private static void depthAtMostFour() {
        long worth = 0;
        for (int pipes = 1; pipes <= 28; pipes++) {
            int depth = Math.min(4, pipes);
            worth += pipes <= 4 ? 10 * ADDS[pipes - 1] : 0;
            duePlan(villages(1, 10), pipes, 99, worth, depth, depth + 1, 1, depth);
        }
    }

    // Terms: "D in all at most", for each D
    private static void daysInAllAtMost() {
        DryWells x = villages(9, 10);
        for (int days = 0; days <= 99; days++) {
            int depth = Math.max(0, Math.min(4, days - 9));
            long worth = depth == 0 ? 0 : 10 * (16 - (16 >> depth));
            Check.due("plan(28, " + days + ")", x.plan(28, days), worth << 16);
            Check.due("its PIPES", x.planned(2, 0), depth);
            Check.due("its DAYS", x.planned(3, 0), depth == 0 ? 0 : 9 + depth);
        }
    }

    // Terms: "DAYS of these WAYS, of all depths, and rest for each hole"
    private static void wayPipeAndRestAreDays() {
        for (int way = 1; way <= 9; way++) {
            for (int rest = 0; rest <= 9; rest++) {
                DryWells x = villages(way, 10);
                Check.rulesOf(x, "rest " + rest + ";");
                int idle = way + rest;
                duePlan(x, 28, idle, 0, 0, 0);
                duePlan(x, 28, idle + 1, 10 * 8, 1, idle + 1, 1, 1);
                duePlan(x, 28, idle + 2, 10 * 12, 2, idle + 2, 1, 2);
                duePlan(x, 2, idle + 3, 10 * 12, 2, idle + 2, 1, 2);
                duePlan(x, 28, idle + 4, 10 * 15, 4, idle + 4, 1, 4);
            }
        }
    }

    /** Seven VILLAGES would need more than 99 DAYS: four of depth 4 are better than five of 9 PIPES. */
    private static void ninetyNineDays() {
        DryWells x = villages(0, 10, 10, 10, 10, 10, 10, 10);
        for (int place = 1; place <= 7; place++) {
            x.way(place - 1, place, 9);
        }
        Check.rulesOf(x, "rest 9;");
        duePlan(x, 28, 99, 4 * 10 * 15, 16, 88, 1, 4, 2, 4, 3, 4, 4, 4);
        duePlan(x, 28, 95, 4 * 10 * 15, 16, 88, 1, 4, 2, 4, 3, 4, 4, 4);
        Check.rulesOf(x, "rest 1;");
        // 63 of WAYS, 7 of rests, 28 of PIPES
        Check.due("all in 98 DAYS", x.plan(28, 98), 7 * 10 * parts(15));
        Check.due("a DAY too few", x.plan(28, 97), 10 * parts(7 * 15 - 1));
        x.way(6, 7, DryWells.NONE);
        x.way(5, 7, 9);
        x.way(6, 5, NONE);
        x.way(4, 6, 9);
        Check.due("6 and 7 not both", x.plan(28, 99), 6 * 10 * parts(15));
    }

    // Terms: "by WAYS that are there"
    private static void noWayThere() {
        DryWells x = villages(0, 10, 20);
        duePlan(x, 28, 99, 0, 0, 0);
        x.way(1, 2, 1);
        duePlan(x, 28, 99, 0, 0, 0);
        x.way(0, 2, 9);
        duePlan(x, 28, 99, 30 * 15, 8, 18, 2, 4, 1, 4);
    }

    private static void waysTakenAway() {
        DryWells x = villages(1, 10, 19);
        duePlan(x, 2, 99, 29 * 8, 2, 4, 1, 1, 2, 1);
        x.way(0, 1, NONE);
        duePlan(x, 2, 99, 29 * 8, 2, 4, 2, 1, 1, 1);
        x.way(0, 2, NONE);
        duePlan(x, 2, 99, 0, 0, 0);
        x.way(0, 1, 5);
        duePlan(x, 2, 99, 29 * 8, 2, 8, 1, 1, 2, 1);
        x.way(1, 2, NONE);
        duePlan(x, 2, 99, 10 * 12, 2, 7, 1, 2);
    }

    // Terms: "straight from one to the next"
    private static void neverOverTheDepot() {
        DryWells x = villages(0, 10, 10, 10);
        for (int place = 1; place <= 3; place++) {
            x.way(0, place, 1);
        }
        duePlan(x, 28, 99, 10 * 15, 4, 5, 3, 4);
    }

    private static void neverOverOneThatIsNotInIt() {
        DryWells x = villages(0, 10, 9999);
        x.way(0, 1, 1);
        x.way(1, 2, 1);
        duePlan(x, 1, 99, 10 * 8, 1, 2, 1, 1);
        duePlan(x, 2, 99, 10009 * 8, 2, 4, 1, 1, 2, 1);
    }

    /** Many PEOPLE at the end of a chain: each VILLAGE ahead of them takes a PIPE, whatever its number. */
    private static void everyOneOnTheWayTakesAPipe() {
        for (int turn = 0; turn < 14; turn++) {
            int[] chain = new int[8];
            int[] people = new int[7];
            for (int i = 1; i <= 7; i++) {
                int step = turn < 7 ? i : 7 - i;
                chain[i] = (step + turn) % 7 + 1;
                people[chain[i] - 1] = i == 7 ? 9999 : 10;
            }
            DryWells x = villages(0, people);
            for (int i = 1; i <= 7; i++) {
                x.way(chain[i - 1], chain[i], 1);
            }
            for (int pipes = 0; pipes <= 7; pipes++) {
                long worth = pipes < 7 ? 80L * pipes : 480 + 9999 * 8;
                Check.due("plan(" + pipes + ", 99)", x.plan(pipes, 99), worth << 16);
                Check.due("VILLAGES", x.planned(4, 0), pipes);
                Check.due("the last", x.planned(0, pipes - 1), pipes == 0 ? NONE : chain[pipes]);
            }
        }
    }

    /** A shorter WAY over a VILLAGE doesn't help while there is no PIPE for it. */
    private static void longWayRatherThanOver() {
        for (int far = 1; far <= 2; far++) {
            int near = 3 - far;
            DryWells x = villages(0, far == 1 ? 9999 : 10, far == 2 ? 9999 : 10);
            x.way(0, near, 1);
            x.way(near, far, 1);
            x.way(0, far, 9);
            duePlan(x, 1, 99, 9999 * 8, 1, 10, far, 1);
            duePlan(x, 1, 9, 10 * 8, 1, 2, near, 1);
        }
    }

    // Terms: "for each VILLAGE that has no WELL"
    private static void notWhereAWellIs() {
        DryWells x = villages(1, 9999, 10);
        x.go(1);
        x.drill(1, true, 0);
        duePlan(x, 28, 99, 10 * 15, 4, 5, 2, 4);
        x.way(0, 2, NONE);
        x.go(0);
        duePlan(x, 28, 99, 0, 0, 0);
    }

    // Terms: "and isn't GIVEN UP"
    private static void notWhereGivenUp() {
        for (int dry = 1; dry <= 3; dry++) {
            DryWells x = villages(1, 9999, 10);
            Check.rulesOf(x, "dry " + dry + ";");
            x.go(1);
            for (int holes = 1; holes < dry; holes++) {
                x.drill(1, false, 0);
            }
            duePlan(x, 1, 1, 9999 * 8, 1, 1, 1, 1);
            x.drill(1, false, 0);
            duePlan(x, 1, 1, 0, 0, 0);
            duePlan(x, 1, 2, 10 * 8, 1, 2, 2, 1);
            Check.rulesOf(x, "dry " + (dry + 1) + ";");
            duePlan(x, 1, 1, 9999 * 8, 1, 1, 1, 1);
        }
    }

    // Terms: "the RIG goes from where it is", and needn't come back
    private static void fromWhereTheRigIs() {
        DryWells x = villages(0, 10, 19);
        x.way(0, 1, 3);
        x.way(1, 2, 5);
        x.way(0, 2, 9);
        duePlan(x, 1, 99, 19 * 8, 1, 10, 2, 1);
        x.go(1);
        duePlan(x, 1, 99, 19 * 8, 1, 6, 2, 1);
        x.go(2);
        duePlan(x, 1, 99, 19 * 8, 1, 1, 2, 1);
        duePlan(x, 2, 99, 29 * 8, 2, 7, 2, 1, 1, 1);
    }

    // Terms: "(if it is at one, that may be the first, without a WAY)"
    private static void rigAtOneOfThem() {
        for (int place = 1; place <= 7; place++) {
            DryWells x = villages(2, 10, 10, 10, 10, 10, 10, 10);
            x.go(place);
            duePlan(x, 1, 1, 10 * 8, 1, 1, place, 1);
            duePlan(x, 1, 99, 10 * 8, 1, 1, place, 1);
        }
    }

    private static void rigAtOneWithoutWays() {
        DryWells x = villages(1, 10, 20);
        x.go(1);
        x.way(0, 1, NONE);
        x.way(1, 2, NONE);
        duePlan(x, 28, 99, 10 * 15, 4, 4, 1, 4);
    }

    private static void rigAtOneThatIsNotInIt() {
        DryWells x = villages(4, 10, 9999);
        x.go(1);
        duePlan(x, 1, 5, 9999 * 8, 1, 5, 2, 1);
        duePlan(x, 1, 4, 10 * 8, 1, 1, 1, 1);
    }

    /** 2 and 3 have no WAY between them: from 1 to 2, back to 1 by a WAY, and on to 3. */
    private static void rigComesBackByAWay() {
        DryWells x = villages(0, 10, 20, 30);
        x.way(0, 1, 1);
        x.way(1, 2, 2);
        x.way(1, 3, 3);
        x.go(1);
        duePlan(x, 3, 99, 60 * 8, 3, 10, 2, 1, 1, 1, 3, 1);
        // Without that WAY back it is 1 and 3 alone, one of them deeper.
        duePlan(x, 3, 9, 30 * 12 + 10 * 8, 3, 6, 1, 1, 3, 2);
    }

    // WORTH is a long: 7 times 9999 times HOPE
    private static void worthBeyondInt() {
        DryWells x = new DryWells();
        x.rock(99, 1, 50);
        for (int i = 0; i < 12; i++) {
            x.chance(i / 4, i % 4 + 1, 15);
        }
        for (int place = 1; place <= 7; place++) {
            x.village(0, 9999);
            x.way(place - 1, place, 1);
        }
        Check.due("the greatest WORTH", x.plan(28, 99), 7L * 9999 * ((1 << 20) - 16));
        Check.due("one VILLAGE", x.plan(4, 99) > Integer.MAX_VALUE, true);
    }

    // Terms: "WORTH: PEOPLE times HOPE", HOPE as it is told: cut ahead of the product
    private static void worthOfHopeThatIsCut() {
        DryWells x = new DryWells();
        x.rock(1, 1, 1);
        x.village(0, 9999);
        x.way(0, 1, 1);
        x.chance(0, 1, 1);
        Check.due("HOPE", x.hope(1, 1), 21845);
        Check.due("its WORTH", x.plan(1, 99), 9999L * 21845);
    }

    /** Nothing is worth anything: the fewest PIPES are none. */
    private static void worthOfNoHope() {
        DryWells x = villages(1, 10, 20);
        for (int i = 0; i < 12; i++) {
            x.chance(i / 4, i % 4 + 1, 0);
        }
        duePlan(x, 28, 99, 0, 0, 0);
        DryWells y = villages(1, 10, 20);
        y.go(1);
        for (int quality = 0; quality <= 2; quality++) {
            y.chance(quality, 1, 0);
        }
        y.drill(1, true, 0);
        Check.due("nothing is LIKELY", y.likely(0, 0, 0), NONE);
        duePlan(y, 28, 99, 0, 0, 0);
    }

    /** A HOPE that isn't quite 0, but is when it is cut. */
    private static void hopeCutToNothing() {
        DryWells x = villages(1, 10, 20);
        for (int i = 0; i < 12; i++) {
            x.chance(i / 4, i % 4 + 1, i < 4 ? 15 : 0);
        }
        x.go(1);
        x.drill(4, false, 0);
        x.drill(4, false, 0);
        Check.due("QUALITY 0 isn't quite unlikely", x.likely(0, 0, 0), 1);
        Check.due("HOPE", x.hope(2, 4), 0);
        duePlan(x, 28, 99, 0, 0, 0);
    }

    // Terms: "of several the fewest PIPES", even in more DAYS
    private static void fewestPipes() {
        DryWells x = villages(0, 10, 15);
        x.way(0, 1, 1);
        x.way(0, 2, 9);
        // 10 PEOPLE with 2 PIPES are as good as 15 with 1.
        duePlan(x, 2, 10, 15 * 8, 1, 10, 2, 1);
        duePlan(x, 2, 9, 10 * 12, 2, 3, 1, 2);
    }

    private static void fewestPipesByCutHope() {
        DryWells x = villages(1, 10, 20);
        for (int pipe = 3; pipe <= 4; pipe++) {
            for (int quality = 0; quality <= 2; quality++) {
                x.chance(quality, pipe, 0);
            }
        }
        duePlan(x, 28, 99, 30 * 12, 4, 6, 1, 2, 2, 2);
    }

    // Terms: "then the fewest DAYS", even with greater depths ahead
    private static void fewestDays() {
        DryWells x = villages(0, 10, 10, 10);
        x.way(0, 1, 1);
        x.way(0, 2, 2);
        x.way(0, 3, 3);
        duePlan(x, 1, 99, 10 * 8, 1, 2, 1, 1);
        x.way(0, 1, 4);
        duePlan(x, 1, 99, 10 * 8, 1, 3, 2, 1);
        x.way(0, 2, 5);
        duePlan(x, 1, 99, 10 * 8, 1, 4, 3, 1);
    }

    /** 20 PEOPLE with 2 PIPES are as good as 30 with 1 each: the DAYS tell which. */
    private static void fewestDaysOfOtherSets() {
        DryWells x = villages(0, 10, 20);
        x.way(0, 1, 1);
        x.way(1, 2, 1);
        x.way(0, 2, 9);
        duePlan(x, 2, 99, 30 * 8, 2, 4, 1, 1, 2, 1);
        x.way(0, 2, 1);
        duePlan(x, 2, 99, 20 * 12, 2, 3, 2, 2);
        DryWells y = villages(0, 20, 10);
        y.way(0, 2, 1);
        y.way(1, 2, 1);
        y.way(0, 1, 9);
        duePlan(y, 2, 99, 30 * 8, 2, 4, 2, 1, 1, 1);
        y.way(0, 1, 1);
        duePlan(y, 2, 99, 20 * 12, 2, 3, 1, 2);
    }

    // Terms: "then the first by depths (of VILLAGES in turn, the lesser ahead)"
    private static void firstByDepths() {
        DryWells x = villages(1, 10, 10);
        duePlan(x, 1, 99, 10 * 8, 1, 2, 2, 1);
        duePlan(x, 2, 99, 20 * 8, 2, 4, 1, 1, 2, 1);
        duePlan(x, 3, 99, 20 * 8 + 10 * 4, 3, 5, 1, 1, 2, 2);
        duePlan(x, 4, 99, 20 * 12, 4, 6, 1, 2, 2, 2);
        duePlan(x, 5, 99, 20 * 12 + 10 * 2, 5, 7, 1, 2, 2, 3);
        duePlan(x, 7, 99, 20 * 14 + 10, 7, 9, 1, 3, 2, 4);
        // Where all add the same, the most go to the last: 0 and 4 ahead of 1 and 3, in fewer DAYS too.
        DryWells y = sameByEachPipe();
        duePlan(y, 4, 99, 2 * 10 * 4, 4, 5, 2, 4);
        duePlan(y, 5, 99, 2 * 10 * 5, 5, 7, 1, 1, 2, 4);
        duePlan(y, 7, 99, 2 * 10 * 7, 7, 9, 1, 3, 2, 4);
    }

    /** Two VILLAGES where each PIPE adds 2 of 16 to HOPE: by QUALITY 0, 1, 2, then by 0 and 1 together. */
    private static DryWells sameByEachPipe() {
        DryWells x = new DryWells();
        x.rock(1, 1, 2);
        x.chance(0, 1, 8);
        x.chance(1, 2, 8);
        x.chance(2, 3, 4);
        x.chance(0, 4, 8);
        x.chance(1, 4, 8);
        x.village(0, 10);
        x.village(0, 10);
        x.way(0, 1, 1);
        x.way(0, 2, 1);
        x.way(1, 2, 1);
        for (int depth = 1; depth <= 4; depth++) {
            Check.due("the same by each PIPE", x.hope(1, depth), depth * parts(2));
        }
        return x;
    }

    /** In as many PIPES and DAYS: depths 0, 0, 1 ahead of 0, 1, 0, ahead of 1, 0, 0. */
    private static void firstByDepthsOfAll() {
        DryWells x = villages(3, 10, 10, 10, 10, 10, 10, 10);
        for (int pipes = 1; pipes <= 7; pipes++) {
            int[] told = new int[2 + 2 * pipes];
            told[0] = pipes;
            told[1] = 4 * pipes;
            for (int k = 0; k < pipes; k++) {
                told[2 + 2 * k] = 8 - pipes + k;
                told[3 + 2 * k] = 1;
            }
            duePlan(x, pipes, 99, 10 * 8 * pipes, told);
        }
    }

    /** In as many DAYS, too: depths 0 and 2 ahead of 1 and 1, but 1 and 1 ahead of 2 and 0. */
    private static void firstByDepthsOfOtherSets() {
        DryWells x = villages(0, 10, 20);
        x.way(0, 1, 1);
        x.way(1, 2, 3);
        x.way(0, 2, 4);
        duePlan(x, 2, 99, 20 * 12, 2, 6, 2, 2);
        x.go(1);
        duePlan(x, 2, 99, 20 * 12, 2, 5, 2, 2);
        DryWells y = villages(0, 20, 10);
        y.way(0, 2, 1);
        y.way(1, 2, 3);
        y.way(0, 1, 4);
        duePlan(y, 2, 99, 30 * 8, 2, 6, 2, 1, 1, 1);
        y.go(2);
        duePlan(y, 2, 99, 30 * 8, 2, 5, 2, 1, 1, 1);
    }

    // Terms: "then the first order by numbers"
    private static void firstOrder() {
        DryWells x = villages(2, 20, 21, 22);
        duePlan(x, 3, 99, 63 * 8, 3, 9, 1, 1, 2, 1, 3, 1);
        x.way(1, 2, 3);
        // 1 3 2 and 2 3 1 are a DAY less than the others.
        duePlan(x, 3, 99, 63 * 8, 3, 9, 1, 1, 3, 1, 2, 1);
        x.way(0, 1, 3);
        duePlan(x, 3, 99, 63 * 8, 3, 9, 2, 1, 3, 1, 1, 1);
    }

    private static void firstOrderOfSeven() {
        DryWells x = villages(1, 10, 10, 10, 10, 10, 10, 10);
        duePlan(x, 28, 99, 70 * 15, 28, 35, 1, 4, 2, 4, 3, 4, 4, 4, 5, 4, 6, 4, 7, 4);
        x.go(7);
        duePlan(x, 28, 99, 70 * 15, 28, 34, 7, 4, 1, 4, 2, 4, 3, 4, 4, 4, 5, 4, 6, 4);
        x.way(1, 7, 2);
        duePlan(x, 28, 99, 70 * 15, 28, 34, 7, 4, 2, 4, 1, 4, 3, 4, 4, 4, 5, 4, 6, 4);
    }

    /** A PLAN's sentences don't name the 8 PIPES that a ROCK bears. */
    private static void pipesOfTheRockAreNotLookedAt() {
        DryWells x = villages(1, 10, 20, 30);
        duePlan(x, 28, 99, 60 * 15, 12, 15, 1, 4, 2, 4, 3, 4);
        x.go(1);
        x.drill(4, false, 0);
        x.drill(4, false, 0);
        duePlan(x, 28, 99, 60 * 15, 12, 14, 1, 4, 2, 4, 3, 4);
    }

    // 14: "NONE ahead of any", and a refused plan() is none
    private static void plannedAheadOfAny() {
        DryWells x = villages(1, 10);
        x.plan(29, 0);
        x.plan(0, 100);
        x.plan(-1, 5);
        for (int what = -1; what <= 5; what++) {
            Check.due("planned(" + what + ") ahead of any", x.planned(what, 0), NONE);
        }
    }

    // 14: "the k-th VILLAGE to which it goes (k from 0 on), 1: its depth; NONE if there is none such"
    private static void plannedAtItsEnds() {
        DryWells x = villages(1, 10, 10, 10, 10, 10, 10, 10);
        for (int pipes = 0; pipes <= 7; pipes++) {
            x.plan(pipes, 99);
            for (int what = 0; what <= 1; what++) {
                Check.due("the first", x.planned(what, 0) != NONE, pipes > 0);
                Check.due("the last", x.planned(what, pipes - 1) != NONE, pipes > 0);
                Check.due("behind the last", x.planned(what, pipes), NONE);
                Check.due("ahead of the first", x.planned(what, -1), NONE);
                Check.due("k MIN", x.planned(what, Integer.MIN_VALUE), NONE);
                Check.due("k MAX", x.planned(what, Integer.MAX_VALUE), NONE);
            }
        }
    }

    // 14: "(k isn't looked at ..)"
    private static void plannedWithoutLookingAtK() {
        DryWells x = villages(1, 10, 20);
        x.plan(3, 99);
        for (int k : new int[] {0, 1, 2, 7, -1, Integer.MIN_VALUE, Integer.MAX_VALUE}) {
            Check.due("PIPES, k " + k, x.planned(2, k), 3);
            Check.due("DAYS, k " + k, x.planned(3, k), 5);
            Check.due("VILLAGES, k " + k, x.planned(4, k), 2);
        }
    }

    // 14: "NONE for another what"
    private static void plannedOfAnotherWhat() {
        DryWells x = villages(1, 10, 20);
        x.plan(3, 99);
        for (int what : new int[] {-1, 5, 6, Integer.MIN_VALUE, Integer.MAX_VALUE}) {
            Check.due("planned, what " + what, x.planned(what, 0), NONE);
        }
    }

    // 14: "Of the latest plan() that told a WORTH"
    private static void plannedBehindRefused() {
        DryWells x = villages(1, 10, 19);
        x.plan(2, 99);
        x.plan(29, 99);
        x.plan(28, 100);
        x.plan(-1, 0);
        duePlanned(x, "behind refused ones", 2, 4, 1, 1, 2, 1);
        x.plan(1, 99);
        duePlanned(x, "behind another", 1, 2, 2, 1);
    }

    /** A WORTH of 0 is told, too. */
    private static void plannedBehindNoWorth() {
        DryWells x = villages(1, 10, 20);
        x.plan(2, 99);
        Check.due("a WORTH of 0", x.plan(0, 0), 0);
        duePlanned(x, "behind no WORTH", 0, 0);
    }

    // 14: "as it was then"
    private static void plannedAsItWasThen() {
        DryWells x = villages(1, 10, 20, 30);
        x.plan(5, 99);
        int[] told = {5, 8, 1, 1, 2, 2, 3, 2};
        duePlanned(x, "at once", told);
        x.way(0, 1, NONE);
        x.way(0, 2, 9);
        x.chance(0, 1, 0);
        x.rock(1, 1, 1);
        x.village(1, 9999);
        x.go(3);
        x.drill(1, true, 0);
        x.visit(3, 1, false);
        Check.rulesOf(x, "rest 9; dry 1;");
        x.rules(-1);
        duePlanned(x, "behind all that", told);
    }
}
