/** The edges in the sentences of promises 15 and 16 and of their Terms, each by a test of its own. */
public final class EdgesLivesTest {
    private static final int NONE = DryWells.NONE;

    public static void main(String[] args) {
        agesAtTheirEnds();
        visitToEachKind();
        visitToTheSeventh();
        leastEnd();
        greatestRun();
        sameAgeBothWays();
        stillAtEachAge();
        stillWithoutAnyEnd();
        stillAtTheFirstAge();
        stillAtTheLastAge();
        stillOfNoneLeft();
        stillOfWellsWithoutVisits();
        knownUpToTheAgeItself();
        knownNoFurtherThanItsEnd();
        severalEndsAtOnce();
        leastTerms();
        endThatMovesAhead();
        Check.end("EdgesLivesTest");
    }

    private static void dueStill(DryWells x, int age, long upper, long lower) {
        Check.due("still(" + age + ", 0)", x.still(age, 0), upper);
        Check.due("still(" + age + ", 1)", x.still(age, 1), lower);
    }

    // Terms: "AGES, 1 .. 30"
    private static void agesAtTheirEnds() {
        for (int age = -1; age <= 32; age++) {
            boolean right = age >= 1 && age <= 30;
            DryWells x = LivesTest.wells(1);
            Check.due("visit, age " + age, x.visit(1, age, true), right);
            Check.due("told to run", x.look(1, 6), right ? age : 0);
            DryWells y = LivesTest.wells(1);
            Check.due("visit, age " + age, y.visit(1, age, false), right);
            Check.due("END", y.look(1, 5), right ? age : NONE);
            Check.due("still, age " + age, y.still(age, 0), right ? 0 : NONE);
            Check.due("still, age " + age, y.still(age, 1), right ? 1 : NONE);
        }
    }

    // 15: "A VISIT to the WELL of a VILLAGE: true; false: it has none"
    private static void visitToEachKind() {
        DryWells x = RigTest.rigAtVillage();
        Check.rulesOf(x, "salt 0; dry 2;");
        Check.due("the DEPOT", x.visit(0, 1, true), false);
        Check.due("a VILLAGE without holes", x.visit(1, 1, true), false);
        x.drill(1, false, 0);
        Check.due("with a dry hole", x.visit(1, 1, true), false);
        x.drill(1, true, 1);
        Check.due("with a SALTED hole", x.visit(1, 1, true), false);
        Check.due("GIVEN UP", x.look(1, 2), 2);
        Check.due("GIVEN UP", x.visit(1, 1, false), false);
        x.drill(1, true, 0);
        Check.due("none of these was told", x.look(1, 6), 0);
        Check.due("none of these was told", x.look(1, 5), NONE);
        Check.due("with a WELL", x.visit(1, 1, true), true);
        Check.due("with a WELL", x.visit(1, 2, false), true);
        Check.due("with a WELL that ENDED", x.visit(1, 3, true), true);
        Check.due("the RIG needn't be there", x.go(2), 6);
        Check.due("the RIG needn't be there", x.visit(1, 1, true), true);
        Check.due("a VISIT takes no DAY", x.count(2), 6);
    }

    private static void visitToTheSeventh() {
        DryWells x = LivesTest.wells(7);
        for (int place = 1; place <= 7; place++) {
            Check.due("visit to " + place, x.visit(place, place, true), true);
            Check.due("visit to " + place, x.visit(place, 30 - place, false), true);
        }
        for (int place = 1; place <= 7; place++) {
            Check.due("told to run", x.look(place, 6), place);
            Check.due("END", x.look(place, 5), 30 - place);
        }
        Check.due("visit to 8", x.visit(8, 1, true), false);
    }

    // Terms: "A WELL ENDS at the least AGE at which it was told not to run"
    private static void leastEnd() {
        DryWells x = LivesTest.wells(1);
        int[] told = {30, 29, 30, 12, 13, 1, 2};
        int[] least = {30, 29, 29, 12, 12, 1, 1};
        for (int i = 0; i < told.length; i++) {
            x.visit(1, told[i], false);
            Check.due("END behind " + told[i], x.look(1, 5), least[i]);
            Check.due("never told to run", x.look(1, 6), 0);
        }
    }

    // 17: "6: the greatest AGE at which it was told to run (0)"
    private static void greatestRun() {
        DryWells x = LivesTest.wells(1);
        int[] told = {1, 2, 1, 29, 28, 30, 29};
        int[] greatest = {1, 2, 2, 29, 29, 30, 30};
        for (int i = 0; i < told.length; i++) {
            x.visit(1, told[i], true);
            Check.due("told to run behind " + told[i], x.look(1, 6), greatest[i]);
            Check.due("no END", x.look(1, 5), NONE);
        }
    }

    /** Told both at one AGE: it was told not to run there, whatever else was told. */
    private static void sameAgeBothWays() {
        for (int first = 0; first <= 1; first++) {
            DryWells x = LivesTest.wells(1);
            x.visit(1, 10, first == 0);
            x.visit(1, 10, first == 1);
            Check.due("END", x.look(1, 5), 10);
            Check.due("told to run", x.look(1, 6), 10);
            dueStill(x, 9, 1, 1);
            dueStill(x, 10, 0, 1);
        }
    }

    /** One END at each AGE in turn, of two WELLS: 1 ahead of it, a half from it on. */
    private static void stillAtEachAge() {
        for (int end = 1; end <= 30; end++) {
            DryWells x = LivesTest.wells(2);
            x.visit(1, end, false);
            x.visit(2, 30, true);
            for (int age = 1; age <= 30; age++) {
                dueStill(x, age, 1, age < end ? 1 : 2);
            }
        }
    }

    // 16: "1 / 1 without any END"
    private static void stillWithoutAnyEnd() {
        DryWells x = LivesTest.wells(7);
        for (int place = 1; place <= 7; place++) {
            x.visit(place, 4 * place, true);
        }
        for (int age = 1; age <= 30; age++) {
            dueStill(x, age, 1, 1);
        }
    }

    private static void stillAtTheFirstAge() {
        DryWells x = LivesTest.wells(3);
        x.visit(1, 1, false);
        dueStill(x, 1, 0, 1);
        x.visit(2, 1, true);
        dueStill(x, 1, 1, 2);
        x.visit(3, 30, false);
        dueStill(x, 1, 2, 3);
    }

    private static void stillAtTheLastAge() {
        DryWells x = LivesTest.wells(3);
        x.visit(1, 30, false);
        x.visit(2, 30, true);
        x.visit(3, 29, true);
        dueStill(x, 29, 1, 1);
        dueStill(x, 30, 1, 2);
        x.visit(3, 30, true);
        dueStill(x, 30, 2, 3);
    }

    /** 0 by 1 where none is left, and at all AGES behind. */
    private static void stillOfNoneLeft() {
        DryWells x = LivesTest.wells(2);
        x.visit(1, 5, false);
        x.visit(2, 5, false);
        dueStill(x, 4, 1, 1);
        for (int age = 5; age <= 30; age++) {
            dueStill(x, age, 0, 1);
        }
    }

    // Terms: "(0 without)": a WELL without VISITS isn't known to run at AGE 1
    private static void stillOfWellsWithoutVisits() {
        DryWells x = LivesTest.wells(5);
        x.visit(1, 1, false);
        dueStill(x, 1, 0, 1);
    }

    // Terms: "are known to run up to i or behind"
    private static void knownUpToTheAgeItself() {
        DryWells x = LivesTest.wells(2);
        x.visit(1, 10, false);
        x.visit(2, 9, true);
        dueStill(x, 10, 0, 1);
        x.visit(2, 10, true);
        dueStill(x, 10, 1, 2);
        x.visit(2, 11, true);
        dueStill(x, 10, 1, 2);
    }

    // Terms: "without such one it is known to run": a WELL that ENDS counts up to its END alone
    private static void knownNoFurtherThanItsEnd() {
        DryWells x = LivesTest.wells(3);
        x.visit(1, 5, false);
        x.visit(1, 30, true);
        x.visit(2, 10, false);
        x.visit(3, 30, true);
        dueStill(x, 5, 2, 3);
        // Of 2 and 3, not of 1.
        dueStill(x, 10, 1, 3);
    }

    private static void severalEndsAtOnce() {
        DryWells x = LivesTest.wells(7);
        for (int place = 1; place <= 7; place++) {
            x.visit(place, place <= 3 ? 4 : place <= 6 ? 8 : 30, place == 7);
        }
        dueStill(x, 4, 4, 7);
        dueStill(x, 8, 1, 7);
        dueStill(x, 30, 1, 7);
    }

    // 16: "(least terms ..)" of a product whose parts have much in common
    private static void leastTerms() {
        DryWells x = LivesTest.wells(6);
        int[] ages = {2, 2, 5, 5, 9, 30};
        for (int place = 1; place <= 6; place++) {
            x.visit(place, ages[place - 1], place == 6);
        }
        // 4/6, then 2/4, then 1/2
        dueStill(x, 2, 2, 3);
        dueStill(x, 5, 1, 3);
        dueStill(x, 9, 1, 6);
        x = LivesTest.wells(7);
        for (int place = 1; place <= 6; place++) {
            x.visit(place, place, false);
        }
        // 5/6, 4/5, 3/4, 2/3, 1/2, 0/1: WELL 7 isn't known
        dueStill(x, 5, 1, 6);
        dueStill(x, 6, 0, 1);
        x.visit(7, 3, true);
        // 6/7, 5/6, 4/5, then 2/3, 1/2
        dueStill(x, 3, 4, 7);
        dueStill(x, 5, 4, 21);
    }

    private static void endThatMovesAhead() {
        DryWells x = LivesTest.wells(2);
        x.visit(2, 30, true);
        x.visit(1, 20, false);
        dueStill(x, 19, 1, 1);
        x.visit(1, 10, false);
        dueStill(x, 9, 1, 1);
        dueStill(x, 10, 1, 2);
        dueStill(x, 20, 1, 2);
    }
}
