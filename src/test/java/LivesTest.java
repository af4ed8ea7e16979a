/** Promises 15, 16 and 17 (5, 6): VISITS, and how long WELLS run. */
public final class LivesTest {
    public static void main(String[] args) {
        visits();
        endsAndRuns();
        stillWrongly();
        stillWithoutEnds();
        stillWithGaps();
        runsBehindItsEnd();
        sevenWells();
        Check.end("LivesTest");
    }

    /** So many VILLAGES, each with a WELL. */
    static DryWells wells(int number) {
        DryWells x = new DryWells();
        x.rock(1, 1, 1);
        x.chance(0, 1, 8);
        for (int place = 1; place <= number; place++) {
            x.village(0, place);
            x.way(place - 1, place, 1);
            x.go(place);
            x.drill(1, true, 0);
        }
        return x;
    }

    private static void visits() {
        DryWells x = RigTest.rigAtVillage();
        Check.due("visit without a WELL", x.visit(1, 1, true), false);
        x.drill(1, false, 0);
        Check.due("visit of a dry hole", x.visit(1, 1, true), false);
        x.drill(1, true, 0);
        int[] wrong = {-1, 0, Integer.MIN_VALUE, Integer.MAX_VALUE};
        for (int number : wrong) {
            Check.due("visit, village " + number, x.visit(number, 1, true), false);
            Check.due("visit, age " + number, x.visit(1, number, false), false);
        }
        Check.due("visit, village 2", x.visit(2, 1, true), false);
        Check.due("visit, village 3", x.visit(3, 1, true), false);
        Check.due("visit, age 31", x.visit(1, 31, false), false);
        Check.due("no END came", x.look(1, 5), DryWells.NONE);
        Check.due("visit, age 1", x.visit(1, 1, true), true);
        Check.due("visit, age 30", x.visit(1, 30, true), true);
        Check.due("told to run", x.look(1, 6), 30);
    }

    private static void endsAndRuns() {
        DryWells x = wells(2);
        x.visit(1, 7, true);
        x.visit(1, 3, true);
        Check.due("the greatest AGE", x.look(1, 6), 7);
        x.visit(1, 9, false);
        x.visit(1, 12, false);
        Check.due("the least END", x.look(1, 5), 9);
        x.visit(1, 5, false);
        Check.due("a lesser END", x.look(1, 5), 5);
        Check.due("told to run all the same", x.look(1, 6), 7);
        Check.due("the other WELL has no END", x.look(2, 5), DryWells.NONE);
        Check.due("the other WELL", x.look(2, 6), 0);
    }

    private static void dueStill(DryWells x, int age, long upper, long lower) {
        Check.due("still(" + age + ", 0)", x.still(age, 0), upper);
        Check.due("still(" + age + ", 1)", x.still(age, 1), lower);
    }

    private static void stillWrongly() {
        DryWells x = wells(1);
        int[] wrong = {0, -1, 31, Integer.MIN_VALUE, Integer.MAX_VALUE};
        for (int age : wrong) {
            Check.due("still, age " + age, x.still(age, 0), DryWells.NONE);
        }
        int[] noWhat = {-1, 2, Integer.MIN_VALUE, Integer.MAX_VALUE};
        for (int what : noWhat) {
            Check.due("still, what " + what, x.still(1, what), DryWells.NONE);
        }
    }

    private static void stillWithoutEnds() {
        DryWells x = new DryWells();
        dueStill(x, 1, 1, 1);
        x = wells(3);
        dueStill(x, 30, 1, 1);
        x.visit(1, 30, true);
        dueStill(x, 30, 1, 1);
    }

    private static void stillWithGaps() {
        DryWells x = wells(4);
        x.visit(1, 10, false);
        x.visit(2, 9, true);
        x.visit(3, 10, true);
        // WELL 4 has no VISIT, 2 isn't known at 10: of 1 and 3 one is left.
        dueStill(x, 9, 1, 1);
        dueStill(x, 10, 1, 2);
        dueStill(x, 30, 1, 2);
        x.visit(2, 30, true);
        dueStill(x, 10, 2, 3);
        x.visit(2, 12, false);
        // 10 of three, 12 of the one that is left: 3 is known up to 10 alone.
        dueStill(x, 11, 2, 3);
        dueStill(x, 12, 0, 1);
        x.visit(3, 12, true);
        dueStill(x, 12, 1, 3);
        dueStill(x, 30, 1, 3);
    }

    private static void runsBehindItsEnd() {
        DryWells x = wells(2);
        x.visit(1, 5, false);
        x.visit(1, 20, true);
        x.visit(2, 10, false);
        x.visit(2, 10, true);
        dueStill(x, 5, 1, 2);
        // WELL 1 ended at 5, whatever was told of it later.
        dueStill(x, 10, 0, 1);
    }

    private static void sevenWells() {
        DryWells x = wells(7);
        for (int place = 1; place <= 7; place++) {
            x.visit(place, place < 3 ? 1 : place, false);
        }
        dueStill(x, 1, 5, 7);
        dueStill(x, 2, 5, 7);
        dueStill(x, 3, 4, 7);
        dueStill(x, 6, 1, 7);
        dueStill(x, 7, 0, 1);
        dueStill(x, 30, 0, 1);
    }
}
