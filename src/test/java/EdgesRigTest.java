/** The edges in the sentences of promises 7 to 10, 17 and 18 and their Terms, each by a test of its own. */
public final class EdgesRigTest {
    private static final int NONE = DryWells.NONE;

    public static void main(String[] args) {
        peopleAtTheirEnds();
        placesInOrder();
        villageOnTheLastRock();
        wayOfEachDays();
        wayBetweenAnyTwo();
        wayTakenAway();
        refusedWayKeepsTheOld();
        goStraightAlone();
        goAddsDays();
        goToVillagesOfAllKinds();
        dayEndsAt9999();
        dayEndsAt9999ByDrilling();
        drillOfEachDepth();
        drillOnEachVillage();
        saltAtItsEnds();
        saltAtTheRule();
        saltWithoutWater();
        restAtItsEnds();
        eightPipesOfOneRock();
        eightPipesOfEachRock();
        refusedPipesThenFewer();
        dryAtItsEnds();
        dryBySalted();
        wellIsNotGivenUp();
        givenUpMayBeDrilled();
        saltedMayBeDrilled();
        lookAtNewVillage();
        lookAtEachVillage();
        lookAtWellPipes();
        lookThrowsForBoth();
        countsAtTheirEnds();
        Check.end("EdgesRigTest");
    }

    /** Four ROCKS, seven VILLAGES on them in turn, WAYS of one DAY between any two PLACES. */
    private static DryWells sevenVillages() {
        DryWells x = new DryWells();
        for (int rock = 0; rock < 4; rock++) {
            x.rock(1, 1, 1);
        }
        for (int place = 1; place <= 7; place++) {
            x.village((place - 1) % 4, 9999);
        }
        for (int a = 0; a <= 7; a++) {
            for (int b = a + 1; b <= 7; b++) {
                x.way(a, b, 1);
            }
        }
        return x;
    }

    // Terms: "PEOPLE 1 .. 9999"
    private static void peopleAtTheirEnds() {
        DryWells x = new DryWells();
        x.rock(1, 1, 1);
        Check.due("PEOPLE 1", x.village(0, 1), 1);
        Check.due("PEOPLE 9999", x.village(0, 9999), 2);
        Check.due("PEOPLE 0", x.village(0, 0), NONE);
        Check.due("PEOPLE 10000", x.village(0, 10000), NONE);
        Check.due("one", x.look(1, 1), 1);
        Check.due("9999", x.look(2, 1), 9999);
        Check.due("two VILLAGES", x.count(1), 2);
    }

    // Terms: "1 .. 7 VILLAGES, in order as they come"; a refused one takes no PLACE
    private static void placesInOrder() {
        DryWells x = new DryWells();
        x.rock(1, 1, 1);
        for (int place = 1; place <= 7; place++) {
            Check.due("a refused VILLAGE", x.village(1, 5), NONE);
            Check.dueThrow(x, place, 0, Check.THROWS_INDEX);
            Check.due("no WAY to it yet", x.way(0, place, 1), false);
            Check.due("VILLAGE " + place, x.village(0, 10 * place), place);
            Check.due("its PEOPLE", x.look(place, 1), 10 * place);
            Check.due("a WAY to it", x.way(0, place, 1), true);
            Check.due("VILLAGES", x.count(1), place);
        }
        Check.due("an eighth", x.village(0, 5), NONE);
        Check.due("VILLAGES", x.count(1), 7);
        Check.due("PEOPLE of the seventh", x.look(7, 1), 70);
        Check.dueThrow(x, 8, 0, Check.THROWS_INDEX);
    }

    // 7: "no such ROCK"
    private static void villageOnTheLastRock() {
        DryWells x = new DryWells();
        for (int rock = 0; rock < 4; rock++) {
            Check.due("on ROCK " + rock + ", which is not there", x.village(rock, 5), NONE);
            x.rock(1, 1, 1);
            Check.due("on ROCK " + rock, x.village(rock, 5), rock + 1);
            Check.due("its ROCK", x.look(rock + 1, 0), rock);
        }
        Check.due("on ROCK 4", x.village(4, 5), NONE);
    }

    // Terms: "1 .. 9 DAYS"
    private static void wayOfEachDays() {
        for (int days = -3; days <= 12; days++) {
            DryWells x = new DryWells();
            x.rock(1, 1, 1);
            x.village(0, 1);
            boolean right = days >= 1 && days <= 9;
            Check.due("way of " + days, x.way(0, 1, days), right || days == NONE);
            Check.due("go by it", x.go(1), right ? days : NONE);
        }
    }

    // Terms: "WAYS between two PLACES, the same both ways"
    private static void wayBetweenAnyTwo() {
        for (int a = 0; a <= 7; a++) {
            for (int b = 0; b <= 7; b++) {
                DryWells x = sevenVillages();
                Check.due("way from " + a + " to " + b, x.way(a, b, 7), a != b);
                x.go(a);
                int day = x.count(2);
                Check.due("go there", x.go(b), a == b ? NONE : day + 7);
                Check.due("go back", x.go(a), a == b ? NONE : day + 14);
            }
        }
    }

    // 8: "or there is none (NONE): true"
    private static void wayTakenAway() {
        DryWells x = sevenVillages();
        Check.due("taken away", x.way(3, 5, NONE), true);
        Check.due("taken away again", x.way(5, 3, NONE), true);
        x.go(3);
        Check.due("not from 3 to 5", x.go(5), NONE);
        Check.due("from 3 to 4", x.go(4), 2);
        Check.due("from 4 to 5", x.go(5), 3);
        Check.due("not from 5 to 3", x.go(3), NONE);
        Check.due("given again", x.way(3, 5, 9), true);
        Check.due("from 5 to 3", x.go(3), 12);
    }

    private static void refusedWayKeepsTheOld() {
        DryWells x = sevenVillages();
        x.way(0, 1, 4);
        for (int days : new int[] {0, 10, -2}) {
            Check.due("refused", x.way(1, 0, days), false);
        }
        Check.due("the old WAY", x.go(1), 4);
    }

    // Terms: "It GOES by a WAY (straight)"
    private static void goStraightAlone() {
        DryWells x = RigTest.rigAtVillage();
        x.go(0);
        Check.due("0 to 2 over 1", x.go(2), NONE);
        Check.due("the DAY stays", x.count(2), 2);
        Check.due("the PLACE stays", x.count(3), 0);
    }

    // 9: "The RIG GOES: the DAY"; "it is there" even where it came just now
    private static void goAddsDays() {
        DryWells x = sevenVillages();
        x.way(0, 7, 9);
        Check.due("to 7", x.go(7), 9);
        Check.due("to 7 again", x.go(7), NONE);
        Check.due("to 0", x.go(0), 18);
        Check.due("to 0 again", x.go(0), NONE);
        Check.due("to 6", x.go(6), 19);
        Check.due("at 6", x.count(3), 6);
    }

    /** Nothing keeps the RIG from a VILLAGE with a WELL or one that is GIVEN UP. */
    private static void goToVillagesOfAllKinds() {
        DryWells x = RigTest.rigAtVillage();
        Check.rulesOf(x, "dry 1;");
        x.drill(1, true, 0);
        x.go(2);
        x.drill(1, false, 0);
        Check.due("to the WELL", x.go(1), 7);
        Check.due("to the GIVEN UP one", x.go(2), 9);
    }

    /** The RIG at VILLAGE 1 on DAY 9990: beyond the 512th call, but the sentence stands there too. */
    private static DryWells lateRig() {
        DryWells x = RigTest.rigAtVillage();
        x.way(0, 1, 9);
        for (int i = 0; i < 1108; i++) {
            x.go(i % 2);
        }
        x.way(0, 1, 8);
        x.go(0);
        x.way(0, 1, 9);
        x.go(1);
        Check.due("DAY 9990", x.count(2), 9990);
        return x;
    }

    // 9: "or it would be beyond DAY 9999"
    private static void dayEndsAt9999() {
        DryWells x = lateRig();
        Check.due("to 9999", x.go(0), 9999);
        Check.due("to 10008", x.go(1), NONE);
        x.way(0, 1, 1);
        Check.due("to 10000", x.go(1), NONE);
        Check.due("the DAY stays", x.count(2), 9999);
        Check.due("the PLACE stays", x.count(3), 0);
    }

    // 10: "or it would be beyond DAY 9999"
    private static void dayEndsAt9999ByDrilling() {
        DryWells x = lateRig();
        Check.rulesOf(x, "rest 8;");
        Check.due("to 10000", x.drill(2, true, 0), NONE);
        Check.due("to 10000", x.drill(2, false, 0), NONE);
        Check.due("no WELL", x.look(1, 2), 0);
        Check.due("no hole", x.look(1, 3), 0);
        Check.due("no PIPES", x.count(5), 0);
        RocksTest.dueLikely(x, 0, 0, 1, 3);
        Check.due("to 9999", x.drill(1, true, 0), 1);
        Check.due("DAY 9999", x.count(2), 9999);
    }

    // Terms: "it meets water by PIPE k, or none by k PIPES: k DAYS"; 10: "k PIPES (1 .. 4)"
    private static void drillOfEachDepth() {
        for (int k = -1; k <= 6; k++) {
            boolean right = k >= 1 && k <= 4;
            DryWells x = RigTest.rigAtVillage();
            Check.due("no water by " + k, x.drill(k, false, 0), right ? 0 : NONE);
            Check.due("DAYS", x.count(2), right ? 1 + k : 1);
            Check.due("PIPES", x.count(5), right ? k : 0);
            DryWells y = RigTest.rigAtVillage();
            Check.due("water by " + k, y.drill(k, true, 0), right ? 1 : NONE);
            Check.due("DAYS", y.count(2), right ? 1 + k : 1);
            Check.due("PIPES of the WELL", y.look(1, 4), right ? k : NONE);
        }
    }

    /** A hole is that of the VILLAGE where the RIG is, from the first to the seventh. */
    private static void drillOnEachVillage() {
        for (int place = 1; place <= 7; place++) {
            DryWells x = sevenVillages();
            x.go(place);
            x.drill(1, false, 0);
            x.drill(2, true, 0);
            for (int other = 1; other <= 7; other++) {
                Check.due("bad holes of " + other, x.look(other, 3), other == place ? 1 : 0);
                Check.due("WELL of " + other, x.look(other, 2), other == place ? 1 : 0);
            }
        }
    }

    // Terms: "with water the salt is told (0 .. 999)"
    private static void saltAtItsEnds() {
        for (int salt : new int[] {-1, 0, 1, 998, 999, 1000}) {
            DryWells x = RigTest.rigAtVillage();
            boolean right = salt >= 0 && salt <= 999;
            Check.due("salt " + salt, x.drill(1, true, salt), right ? 1 : NONE);
        }
    }

    // Terms: "above salt it is SALTED, else a WELL"
    private static void saltAtTheRule() {
        for (int rule : new int[] {0, 1, 500, 998, 999}) {
            for (int salt : new int[] {0, rule - 1, rule, rule + 1, 999}) {
                DryWells x = RigTest.rigAtVillage();
                Check.rulesOf(x, "salt " + rule + ";");
                int due = salt < 0 || salt > 999 ? NONE : salt > rule ? 2 : 1;
                Check.due("salt " + salt + " by " + rule, x.drill(1, true, salt), due);
                Check.due("a bad hole", x.look(1, 3), due == 2 ? 1 : 0);
                Check.due("with a WELL", x.look(1, 2), due == 1 ? 1 : 0);
            }
        }
    }

    // 10: "salt (looked at with water alone)"
    private static void saltWithoutWater() {
        int[] salts = {-1, 1000, Integer.MIN_VALUE, Integer.MAX_VALUE, 0, 999};
        for (int salt : salts) {
            DryWells x = RigTest.rigAtVillage();
            Check.rulesOf(x, "salt 0;");
            Check.due("no water, salt " + salt, x.drill(1, false, salt), 0);
        }
    }

    // Terms: "k DAYS, and rest behind it", with each kind of hole
    private static void restAtItsEnds() {
        for (int rest = 0; rest <= 9; rest++) {
            DryWells x = RigTest.rigAtVillage();
            Check.rulesOf(x, "salt 5; rest " + rest + ";");
            x.drill(1, false, 0);
            Check.due("rest " + rest + " without water", x.count(2), 2 + rest);
            x.drill(2, true, 6);
            Check.due("rest " + rest + " of a SALTED", x.count(2), 4 + 2 * rest);
            x.drill(3, true, 5);
            Check.due("rest " + rest + " of a WELL", x.count(2), 7 + 3 * rest);
        }
    }

    // Terms: "At most 8 PIPES in all on one ROCK", by all its VILLAGES
    private static void eightPipesOfOneRock() {
        for (int first = 1; first <= 4; first++) {
            for (int more = 1; more <= 4; more++) {
                DryWells x = RigTest.rigAtVillage();
                x.drill(4, false, 0);
                x.go(2);
                x.drill(first, false, 0);
                boolean fits = first + more <= 4;
                Check.due("4, " + first + " and " + more, x.drill(more, false, 0), fits ? 0 : NONE);
                Check.due("PIPES", x.count(5), fits ? 4 + first + more : 4 + first);
            }
        }
    }

    private static void eightPipesOfEachRock() {
        DryWells x = sevenVillages();
        for (int place = 1; place <= 4; place++) {
            x.go(place);
            Check.due("4 on ROCK " + (place - 1), x.drill(4, false, 0), 0);
            Check.due("8 on ROCK " + (place - 1), x.drill(4, false, 0), 0);
            Check.due("9 on ROCK " + (place - 1), x.drill(1, true, 0), NONE);
            Check.due("PIPES in all", x.count(5), 8 * place);
        }
        x.go(5);
        Check.due("9 on ROCK 0 by another VILLAGE", x.drill(1, false, 0), NONE);
        Check.due("PIPES in all", x.count(5), 32);
    }

    private static void refusedPipesThenFewer() {
        DryWells x = Worlds.sixPipes();
        Check.due("4 more", x.drill(4, false, 0), NONE);
        Check.due("3 more", x.drill(3, true, 0), NONE);
        Check.due("2 more", x.drill(2, true, 0), 1);
        Check.due("PIPES", x.count(5), 8);
    }

    // Terms: "as many holes that met none or were SALTED as dry says, or more, is GIVEN UP"
    private static void dryAtItsEnds() {
        for (int dry = 1; dry <= 9; dry++) {
            DryWells x = RigTest.rigAtVillage();
            Check.rulesOf(x, "dry " + dry + ";");
            for (int holes = 0; holes <= 8; holes++) {
                Check.due(holes + " holes by dry " + dry, x.look(1, 2), holes >= dry ? 2 : 0);
                Check.due("the other VILLAGE", x.look(2, 2), 0);
                x.drill(1, false, 0);
            }
        }
    }

    private static void dryBySalted() {
        DryWells x = RigTest.rigAtVillage();
        Check.rulesOf(x, "salt 0; dry 3;");
        x.drill(1, true, 1);
        x.drill(1, false, 0);
        Check.due("two of three", x.look(1, 2), 0);
        x.drill(1, true, 1);
        Check.due("three of three", x.look(1, 2), 2);
        Check.due("bad holes", x.look(1, 3), 3);
    }

    // Terms: "(if it has no WELL)"
    private static void wellIsNotGivenUp() {
        DryWells x = RigTest.rigAtVillage();
        x.drill(1, false, 0);
        x.drill(1, false, 0);
        x.drill(1, true, 0);
        Check.rulesOf(x, "dry 1;");
        Check.due("two bad holes", x.look(1, 3), 2);
        Check.due("a WELL all the same", x.look(1, 2), 1);
    }

    // 10: "(A VILLAGE that is GIVEN UP may be drilled.)"
    private static void givenUpMayBeDrilled() {
        DryWells x = RigTest.rigAtVillage();
        Check.rulesOf(x, "dry 1; salt 0;");
        x.drill(1, false, 0);
        Check.due("GIVEN UP", x.look(1, 2), 2);
        Check.due("no water there", x.drill(1, false, 0), 0);
        Check.due("SALTED there", x.drill(1, true, 1), 2);
        Check.due("bad holes", x.look(1, 3), 3);
        Check.due("a WELL there", x.drill(1, true, 0), 1);
        Check.due("GIVEN UP no more", x.look(1, 2), 1);
        Check.due("PEOPLE with water", x.count(4), 10);
    }

    private static void saltedMayBeDrilled() {
        DryWells x = RigTest.rigAtVillage();
        Check.rulesOf(x, "salt 0;");
        Check.due("SALTED", x.drill(2, true, 1), 2);
        Check.due("no PEOPLE with water", x.count(4), 0);
        Check.due("no PIPES of a WELL", x.look(1, 4), NONE);
        Check.due("a WELL", x.drill(1, true, 0), 1);
    }

    // 17: "4: PIPES of the WELL (NONE), 5: the AGE at which the WELL ENDS (NONE), 6: .. (0)"
    private static void lookAtNewVillage() {
        DryWells x = new DryWells();
        x.rock(1, 1, 1);
        x.village(0, 77);
        int[] due = {0, 77, 0, 0, NONE, NONE, 0};
        for (int what = 0; what <= 6; what++) {
            Check.due("a new VILLAGE, " + what, x.look(1, what), due[what]);
        }
    }

    private static void lookAtEachVillage() {
        DryWells x = sevenVillages();
        for (int place = 1; place <= 7; place++) {
            Check.due("ROCK of " + place, x.look(place, 0), (place - 1) % 4);
            Check.dueThrow(x, place, 7, Check.THROWS_ELEMENT);
            Check.dueThrow(x, place, -1, Check.THROWS_ELEMENT);
        }
        Check.dueThrow(x, 8, 0, Check.THROWS_INDEX);
        Check.dueThrow(x, 0, 0, Check.THROWS_INDEX);
    }

    private static void lookAtWellPipes() {
        DryWells x = RigTest.rigAtVillage();
        x.drill(3, false, 0);
        Check.due("no WELL", x.look(1, 4), NONE);
        x.drill(4, true, 0);
        Check.due("its own PIPES, not those of other holes", x.look(1, 4), 4);
    }

    /** With neither such a VILLAGE nor such a what: the VILLAGE comes first in the sentence. */
    private static void lookThrowsForBoth() {
        DryWells x = RigTest.rigAtVillage();
        for (int village : new int[] {0, 3, -1, Integer.MIN_VALUE, Integer.MAX_VALUE}) {
            for (int what : new int[] {-1, 7, Integer.MIN_VALUE, Integer.MAX_VALUE}) {
                Check.dueThrow(x, village, what, Check.THROWS_INDEX);
            }
        }
    }

    // 18, with all that there may be: 4 ROCKS, 7 VILLAGES, 69993 PEOPLE, 32 PIPES
    private static void countsAtTheirEnds() {
        DryWells x = sevenVillages();
        int[] first = {2, 3, 4, 4, 4, 3, 2};
        for (int place = 1; place <= 7; place++) {
            x.go(place);
            Check.due("no water at " + place, x.drill(first[place - 1], false, 0), 0);
            if (place == 4) {
                Check.due("the only one on its ROCK", x.drill(3, false, 0), 0);
            }
            Check.due("a WELL at " + place, x.drill(1, true, 0), 1);
            Check.due("PEOPLE with water", x.count(4), 9999 * place);
        }
        Check.due("ROCKS", x.count(0), 4);
        Check.due("VILLAGES", x.count(1), 7);
        Check.due("DAY", x.count(2), 7 + 32);
        Check.due("PLACE", x.count(3), 7);
        Check.due("PIPES", x.count(5), 32);
        x.visit(7, 1, false);
        Check.due("a WELL that ENDED is a WELL", x.count(4), 69993);
        Check.due("a WELL that ENDED is a WELL", x.look(7, 2), 1);
        Check.due("no second one", x.drill(1, true, 0), NONE);
    }
}
