/** Promises 1 to 4: the TAPE, the RULES' text and its FAULTS, and what the RULES change. */
public final class RulesTest {
    public static void main(String[] args) {
        newObject();
        feeding();
        bytesAreHighestFirst();
        rulesOfNoSuchLength();
        goodTexts();
        faults();
        faultBeforeAnyRules();
        faultIsOfTheLatest();
        faultLeavesTheRules();
        rulesAtWork();
        whatWasDrilledStays();
        eightHolesOfNine();
        Check.end("RulesTest");
    }

    private static void newObject() {
        DryWells x = new DryWells();
        for (int what = 0; what <= 5; what++) {
            Check.due("new: count(" + what + ")", x.count(what), 0);
        }
        Check.due("new: rules(1)", x.rules(1), -2);
        Check.due("new: rules(0)", x.rules(0), 0);
        Check.due("new: fault(0)", x.fault(0), 0);
        Check.due("new: hope", x.hope(1, 1), DryWells.NONE);
        Check.due("new: planned", x.planned(4, 0), DryWells.NONE);
    }

    private static void feeding() {
        DryWells x = new DryWells();
        for (int i = 1; i <= 10; i++) {
            Check.due("feed " + i, x.feed(-1, 0, Integer.MIN_VALUE, Integer.MAX_VALUE, i), 20 * i);
        }
        Check.due("feed 11", x.feed(1, 2, 3, 4, 5), DryWells.NONE);
        Check.due("rules(201)", x.rules(201), -2);
        Check.due("rules(200)", x.rules(200), DryWells.NONE);
        Check.due("fault(1) of bytes 255", x.fault(1), 0);
        Check.due("feed behind rules", x.feed(0, 0, 0, 0, 0), 20);
    }

    private static void bytesAreHighestFirst() {
        DryWells x = new DryWells();
        // "rest", " 7; ", "dry ", "2;  ", "salt"
        x.feed(0x72657374, 0x20373b20, 0x64727920, 0x323b2020, 0x73616c74);
        x.feed(0x31303b20, 0x20202020, 0x20202020, 0x20202020, 0x0a0a0a0a);
        Check.due("rules of five numbers", x.rules(40), 3);
    }

    private static void rulesOfNoSuchLength() {
        DryWells x = new DryWells();
        Check.feedText(x, "dry 2;");
        Check.due("rules(-1)", x.rules(-1), -2);
        Check.due("rules(MIN)", x.rules(Integer.MIN_VALUE), -2);
        Check.due("rules(21)", x.rules(21), -2);
        Check.due("rules(MAX)", x.rules(Integer.MAX_VALUE), -2);
        Check.due("rules(20): the TAPE stayed", x.rules(20), 1);
        Check.due("rules(1): the TAPE is empty", x.rules(1), -2);
        Check.feedText(x, "dry 2;rest 1;");
        Check.due("rules(6) of 20 bytes", x.rules(6), 1);
        Check.due("all of the TAPE is gone", x.feed(0, 0, 0, 0, 0), 20);
    }

    private static void good(String text, int lines) {
        DryWells x = new DryWells();
        Check.due("rules of '" + text + "'", Check.rulesOf(x, text), lines);
        Check.due("fault(0) of '" + text + "'", x.fault(0), 0);
        Check.due("fault(1) of '" + text + "'", x.fault(1), DryWells.NONE);
    }

    private static void goodTexts() {
        good("", 0);
        good(" \n \n", 0);
        good("salt 0;", 1);
        good("salt 999;", 1);
        good("dry 1;", 1);
        good("dry 9;", 1);
        good("rest 0;", 1);
        good("rest 9;", 1);
        good("rest 1;dry 1;salt 1;", 3);
        good("salt1;dry2;rest3;", 3);
        good("\n salt \n 0000000000000000000000000000999 \n ; ", 1);
        good("dry 00000000000000000000000000000009;", 1);
    }

    private static void bad(String text, int fault, int place) {
        DryWells x = new DryWells();
        Check.due("rules of '" + text + "'", Check.rulesOf(x, text), DryWells.NONE);
        Check.due("fault(0) of '" + text + "'", x.fault(0), fault);
        Check.due("fault(1) of '" + text + "'", x.fault(1), place);
        Check.due("rules(1) behind '" + text + "'", x.rules(1), -2);
    }

    private static void faults() {
        bad(";", 1, 0);
        bad("5", 1, 0);
        bad("  wet 1;", 1, 2);
        bad("sal 1;", 1, 0);
        bad("salty 1;", 1, 0);
        bad("Salt 1;", 1, 0);
        bad("saltA 1;", 1, 4);
        bad("malt 1;", 1, 0);
        bad("dryz 1;", 1, 0);
        bad("adry 1;", 1, 0);
        bad("dry\t1;", 1, 3);
        bad("dry\r1;", 1, 3);
        bad("dry", 1, 3);
        bad("dry  ", 1, 5);
        bad("dry 1", 1, 5);
        bad("dry 1 \n", 1, 7);
        bad("dry ;", 1, 4);
        bad("dry dry 1;", 1, 4);
        bad("dry -1;", 1, 4);
        bad("dry 1 2;", 1, 6);
        bad("dry 1x;", 1, 5);
        bad("dry 1,", 1, 5);
        bad("dry 1;;", 1, 6);
        bad("dry 1; \n?", 1, 8);
        bad("dry 1;" + (char) 228, 1, 6);
        bad("dry 1;" + (char) 0, 1, 6);
        bad("dry 0;", 2, 4);
        bad("dry 10;", 2, 4);
        bad("salt 1000;", 2, 5);
        bad("rest 10;", 2, 5);
        bad("rest\n 10", 2, 6);
        bad("dry 4294967297;", 2, 4);
        bad("salt 18446744073709551616;", 2, 5);
        bad("dry 0x", 2, 4);
        bad("dry 1;dry 1;", 3, 6);
        bad("rest 1; rest", 3, 8);
        bad("salt 1;salt ?;", 3, 7);
        bad("salt 1;dry 1;rest 1; dry 1;", 3, 21);
        bad("salt 1;salt 1000;", 3, 7);
        bad("dry 0;dry 0;", 2, 4);
        bad("salt 1;dry 1;rest 1;more 1;", 1, 20);
    }

    private static void faultBeforeAnyRules() {
        DryWells x = new DryWells();
        Check.due("fault(0) ahead of rules", x.fault(0), 0);
        Check.due("fault(1) ahead of rules", x.fault(1), DryWells.NONE);
        Check.due("fault(2)", x.fault(2), DryWells.NONE);
        Check.due("fault(-1)", x.fault(-1), DryWells.NONE);
    }

    private static void faultIsOfTheLatest() {
        DryWells x = new DryWells();
        Check.rulesOf(x, " dry 0;");
        x.rules(5);
        Check.due("fault(0) behind a -2", x.fault(0), 2);
        Check.due("fault(1) behind a -2", x.fault(1), 5);
        Check.due("fault(2) behind a FAULT", x.fault(2), DryWells.NONE);
        x.rules(0);
        Check.due("fault(0) behind good RULES", x.fault(0), 0);
        Check.due("fault(1) behind good RULES", x.fault(1), DryWells.NONE);
    }

    /** A text with a FAULT is no RULES: those that were there stay. */
    private static void faultLeavesTheRules() {
        DryWells x = RigTest.rigAtVillage();
        Check.rulesOf(x, "salt 5; rest 3;");
        Check.rulesOf(x, "salt 500; rest 0; dry 0;");
        Check.due("salt stayed", x.drill(1, true, 6), 2);
        Check.due("rest stayed", x.count(2), 1 + 1 + 3);
    }

    private static void rulesAtWork() {
        DryWells x = RigTest.rigAtVillage();
        Check.due("without RULES no salt is too much", x.drill(1, true, 999), 1);
        Check.due("without RULES no rest", x.count(2), 2);
        DryWells y = RigTest.rigAtVillage();
        Check.rulesOf(y, "salt 0; dry 2; rest 9;");
        Check.due("salt 1 above 0", y.drill(1, true, 1), 2);
        Check.due("rest 9", y.count(2), 1 + 1 + 9);
        Check.due("one hole of two", y.look(1, 2), 0);
        Check.due("no water", y.drill(2, false, 0), 0);
        Check.due("two holes of two", y.look(1, 2), 2);
        Check.due("rest 9 twice", y.count(2), 1 + 1 + 9 + 2 + 9);
        Check.rulesOf(y, "dry 3;");
        Check.due("two holes of three", y.look(1, 2), 0);
        Check.rulesOf(y, "dry 1;");
        Check.due("two holes, more than one", y.look(1, 2), 2);
        Check.due("salt and rest are untold again", y.drill(1, true, 999), 1);
        Check.due("no rest", y.count(2), 1 + 1 + 9 + 2 + 9 + 1);
        Check.due("a WELL isn't GIVEN UP", y.look(1, 2), 1);
    }

    private static void whatWasDrilledStays() {
        DryWells x = RigTest.rigAtVillage();
        x.drill(1, true, 50);
        Check.rulesOf(x, "salt 10;");
        Check.due("the WELL stays", x.look(1, 2), 1);
        DryWells y = RigTest.rigAtVillage();
        Check.rulesOf(y, "salt 10;");
        y.drill(1, true, 50);
        y.rules(0);
        Check.due("the SALTED stays", y.look(1, 3), 1);
        Check.due("no WELL comes of it", y.look(1, 2), 0);
    }

    /** No VILLAGE can have more bad holes than the 8 PIPES of its ROCK: untold, dry 9 gives up none. */
    private static void eightHolesOfNine() {
        DryWells x = RigTest.rigAtVillage();
        for (int i = 1; i <= 8; i++) {
            x.drill(1, false, 0);
        }
        Check.due("eight bad holes", x.look(1, 3), 8);
        Check.due("not GIVEN UP ahead of any RULES", x.look(1, 2), 0);
        Check.rulesOf(x, "dry 8;");
        Check.due("GIVEN UP", x.look(1, 2), 2);
        Check.rulesOf(x, "salt 1;");
        Check.due("not GIVEN UP by RULES without dry", x.look(1, 2), 0);
    }
}
