/** Objects in states where much can be lost: the tests of refused calls begin with them. */
final class Worlds {
    static final String WAITING_TEXT = "dry 1; salt 9; rest 7;";

    private Worlds() {
    }

    static DryWells fresh() {
        return new DryWells();
    }

    /** Some of everything, the RIG at VILLAGE 3, which may be drilled; WAITING_TEXT on the TAPE. */
    static DryWells busy() {
        DryWells x = new DryWells();
        Check.rulesOf(x, "salt 50; dry 2; rest 3;");
        x.rock(2, 3, 7);
        x.rock(5, 1, 9);
        int[] chances = {4, 3, 2, 1, 8, 1, 6, 5, 1, 9, 2, 7};
        for (int i = 0; i < 12; i++) {
            x.chance(i / 4, i % 4 + 1, chances[i]);
        }
        x.village(0, 100);
        x.village(1, 250);
        x.village(0, 30);
        x.village(1, 700);
        x.way(0, 1, 2);
        x.way(1, 2, 9);
        x.way(1, 3, 4);
        x.way(3, 4, 1);
        x.way(2, 3, 5);
        x.go(1);
        x.plan(9, 40);
        x.drill(2, true, 50);
        x.visit(1, 4, true);
        x.visit(1, 9, false);
        x.go(2);
        x.drill(1, true, 51);
        x.drill(1, false, 0);
        x.go(3);
        Check.feedText(x, WAITING_TEXT);
        return x;
    }

    /** Four ROCKS, seven VILLAGES, 200 bytes on the TAPE, a FAULT told, the RIG at the DEPOT. */
    static DryWells full() {
        DryWells x = new DryWells();
        Check.rulesOf(x, "salt 1000;");
        for (int i = 0; i < 4; i++) {
            x.rock(1 + i, 99 - i, 50);
        }
        for (int i = 0; i < 12; i++) {
            x.chance(i / 4, i % 4 + 1, i + 4);
        }
        for (int place = 1; place <= 7; place++) {
            x.village(place % 4, 9999 - place);
            x.way(place - 1, place, place);
        }
        x.way(0, 7, 3);
        Check.feedText(x, "rest 2;" + " ".repeat(193));
        return x;
    }

    /** The RIG at VILLAGE 1, which has a WELL; VILLAGE 2 is on the same ROCK. */
    static DryWells atWell() {
        DryWells x = RigTest.rigAtVillage();
        x.chance(0, 1, 8);
        x.drill(1, true, 0);
        return x;
    }

    /** The RIG at VILLAGE 1, whose ROCK bears 6 PIPES. */
    static DryWells sixPipes() {
        DryWells x = RigTest.rigAtVillage();
        x.chance(0, 1, 8);
        x.drill(4, false, 0);
        x.drill(2, false, 0);
        return x;
    }
}
