/** The edges in the sentences of promises 1 to 4 and of the RULES' text, each by a test of its own. */
public final class EdgesTapeTest {
    private static final int NONE = DryWells.NONE;
    private static final String THREE_LINES = "salt 5;dry 2;rest 1;";

    public static void main(String[] args) {
        newHasNoRocks();
        newHasNoChances();
        newHasNoVillages();
        newHasNoWays();
        newHasNoRules();
        newRigAtDepot();
        newTapeIsEmpty();
        newHasNoPlanNorEnds();
        objectsAreApart();
        tapeOf200();
        eachByteAtItsPlace();
        signOfNumbers();
        rulesOfEachLength();
        rulesOfAllBytes();
        rulesOfNoBytes();
        restOfTapeIsGone();
        cutOffLines();
        faultEmptiesTape();
        faultKeepsRules();
        untoldAgain();
        saltedAndWellsStay();
        eachByteAlone();
        eachByteBehindWord();
        eachByteBehindNumber();
        eachByteBehindLine();
        numbersAtTheirEnds();
        numbersThatWrapRound();
        blanksAnywhere();
        wordsNearby();
        firstFaultAlongTheText();
        linesToldAlready();
        faultAheadOfAnyRules();
        faultOfTheLatest();
        Check.end("EdgesTapeTest");
    }

    // 1: "No ROCKS"
    private static void newHasNoRocks() {
        DryWells x = new DryWells();
        Check.due("new: ROCKS", x.count(0), 0);
        Check.due("new: likely", x.likely(0, 0, 1), NONE);
        Check.due("new: a VILLAGE on no ROCK", x.village(0, 1), NONE);
        Check.due("new: the first ROCK", x.rock(1, 1, 1), 0);
    }

    // 1: "No .. CHANCES"; Terms: "(0 at first)"
    private static void newHasNoChances() {
        DryWells x = new DryWells();
        x.rock(1, 2, 5);
        x.village(0, 9999);
        for (int depth = 1; depth <= 4; depth++) {
            Check.due("new: hope", x.hope(1, depth), 0);
        }
        x.way(0, 1, 1);
        x.go(1);
        x.drill(4, false, 0);
        RocksTest.dueLikely(x, 0, 2, 5, 8);
        Check.due("new: a PLAN without HOPE", x.plan(28, 99), 0);
        for (int pipe = 1; pipe <= 4; pipe++) {
            DryWells y = RigTest.rigAtVillage();
            y.drill(pipe, true, 0);
            Check.due("new: water by PIPE " + pipe + " wasn't LIKELY", y.likely(0, 0, 0), NONE);
        }
    }

    // 1: "No .. VILLAGES"
    private static void newHasNoVillages() {
        DryWells x = new DryWells();
        Check.due("new: VILLAGES", x.count(1), 0);
        Check.dueThrow(x, 1, 0, Check.THROWS_INDEX);
        Check.due("new: hope", x.hope(1, 1), NONE);
        Check.due("new: visit", x.visit(1, 1, true), false);
        Check.due("new: PEOPLE with water", x.count(4), 0);
        x.rock(1, 1, 1);
        Check.due("new: the first VILLAGE", x.village(0, 1), 1);
    }

    // Terms: "or none (at first)"
    private static void newHasNoWays() {
        DryWells x = new DryWells();
        x.rock(1, 1, 1);
        for (int place = 1; place <= 7; place++) {
            x.village(0, 1);
            Check.due("new: no WAY to " + place, x.go(place), NONE);
        }
        for (int place = 1; place < 7; place++) {
            x.way(0, place, 1);
            x.go(place);
            for (int to = place + 1; to <= 7; to++) {
                Check.due("new: no WAY from " + place + " to " + to, x.go(to), NONE);
            }
            x.go(0);
        }
    }

    // 1: "No .. RULES"; Terms: "Without a LINE: salt 999, dry 9, rest 0"
    private static void newHasNoRules() {
        DryWells x = RigTest.rigAtVillage();
        Check.due("new: salt 999", x.drill(1, true, 999), 1);
        Check.due("new: rest 0", x.count(2), 2);
        DryWells y = RigTest.rigAtVillage();
        for (int i = 0; i < 8; i++) {
            y.drill(1, false, 0);
        }
        Check.due("new: dry 9", y.look(1, 2), 0);
    }

    // 1: "the RIG at the DEPOT, DAY 0"
    private static void newRigAtDepot() {
        DryWells x = new DryWells();
        Check.due("new: DAY", x.count(2), 0);
        Check.due("new: PLACE", x.count(3), 0);
        Check.due("new: go to the DEPOT", x.go(0), NONE);
        Check.due("new: drill at the DEPOT", x.drill(1, false, 0), NONE);
        Check.due("new: PIPES drilled", x.count(5), 0);
    }

    // 1: "an empty TAPE"
    private static void newTapeIsEmpty() {
        Check.due("new: rules(1)", new DryWells().rules(1), -2);
        Check.due("new: rules(0)", new DryWells().rules(0), 0);
        Check.due("new: feed", new DryWells().feed(0, 0, 0, 0, 0), 20);
    }

    private static void newHasNoPlanNorEnds() {
        DryWells x = new DryWells();
        for (int what = 0; what <= 4; what++) {
            Check.due("new: planned", x.planned(what, 0), NONE);
        }
        for (int age = 1; age <= 30; age++) {
            Check.due("new: still", x.still(age, 0), 1);
            Check.due("new: still", x.still(age, 1), 1);
        }
        Check.due("new: fault(0)", x.fault(0), 0);
        Check.due("new: fault(1)", x.fault(1), NONE);
    }

    /** What is done with one object isn't seen in another, made ahead of it or behind. */
    private static void objectsAreApart() {
        DryWells ahead = new DryWells();
        Worlds.busy();
        Worlds.full().plan(28, 99);
        DryWells behind = new DryWells();
        for (DryWells x : new DryWells[] {ahead, behind}) {
            for (int what = 0; what <= 5; what++) {
                Check.due("apart: count", x.count(what), 0);
            }
            Check.due("apart: planned", x.planned(4, 0), NONE);
            Check.due("apart: fault", x.fault(0), 0);
            Check.due("apart: feed", x.feed(1, 2, 3, 4, 5), 20);
        }
    }

    // 2: "how many it has; NONE, and none come, if it would have more than 200"
    private static void tapeOf200() {
        DryWells x = new DryWells();
        for (int length = 20; length <= 200; length += 20) {
            Check.due("feed to " + length, x.feed(0x20202020, 0x20202020, 0x20202020, 0x20202020, 0x20202020), length);
        }
        for (int i = 0; i < 3; i++) {
            Check.due("feed beyond 200", x.feed(0x3f3f3f3f, 0, 0, 0, 0), NONE);
        }
        Check.due("none came: no 201st", x.rules(201), -2);
        Check.due("none came in their place", x.rules(200), 0);
        Check.due("room again", x.feed(0, 0, 0, 0, 0), 20);
    }

    // 2: "Twenty bytes come behind the TAPE, four of each number, the highest first"
    private static void eachByteAtItsPlace() {
        for (int place = 0; place < 200; place++) {
            DryWells x = new DryWells();
            Check.feedText(x, " ".repeat(place) + "?" + " ".repeat(199 - place));
            Check.due("? at " + place, x.rules(200), NONE);
            Check.due("? at " + place, x.fault(1), place);
            Check.feedText(x, " ".repeat(place) + "?" + " ".repeat(199 - place));
            Check.due("ahead of ? at " + place, x.rules(place), 0);
        }
    }

    /** Bytes of 128 and more, in each place of a number: they are no TOKENS, and don't spill over. */
    private static void signOfNumbers() {
        int[] numbers = {0xa0202020, 0x20a02020, 0x2020a020, 0x202020a0, 0x80202020, 0xff202020};
        int[] places = {0, 1, 2, 3, 0, 0};
        for (int i = 0; i < numbers.length; i++) {
            DryWells x = new DryWells();
            x.feed(0x20202020, numbers[i], 0x20202020, 0x20202020, 0x20202020);
            Check.due("a byte beyond 127", x.rules(20), NONE);
            Check.due("its FAULT", x.fault(0), 1);
            Check.due("its place", x.fault(1), 4 + places[i]);
        }
        DryWells y = new DryWells();
        y.feed(-1, -1, -1, -1, -1);
        Check.due("numbers of -1", y.rules(20), NONE);
        Check.due("numbers of -1", y.fault(1), 0);
    }

    // 3: "The TAPE's first n bytes": from 0 on to all, and cut where n says
    private static void rulesOfEachLength() {
        int[] wordStart = {0, 0, 0, 0, 0, 0, 0, 0, 7, 7, 7, 7, 7, 7, 13, 13, 13, 13, 13, 13, 13};
        for (int n = 0; n <= 20; n++) {
            DryWells x = new DryWells();
            Check.feedText(x, THREE_LINES);
            boolean whole = n == 0 || n == 7 || n == 13 || n == 20;
            int lines = n == 0 ? 0 : n == 7 ? 1 : n == 13 ? 2 : 3;
            boolean cutWord = n < 4 || n > 7 && n < 10 || n > 13 && n < 17;
            Check.due("the first " + n, x.rules(n), whole ? lines : NONE);
            Check.due("FAULT of the first " + n, x.fault(0), whole ? 0 : 1);
            Check.due("its place", x.fault(1), whole ? NONE : cutWord ? wordStart[n] : n);
        }
    }

    private static void rulesOfAllBytes() {
        DryWells x = new DryWells();
        Check.feedText(x, " ".repeat(194) + "dry 3;");
        Check.due("rules(200)", x.rules(200), 1);
        Check.feedText(x, " ".repeat(193) + "dry 3;;");
        Check.due("rules(200)", x.rules(200), NONE);
        Check.due("the last byte", x.fault(1), 199);
        Check.feedText(x, " ".repeat(195) + "dry 3");
        Check.due("rules(200)", x.rules(200), NONE);
        Check.due("the length", x.fault(1), 200);
    }

    // 3: no bytes are RULES without a LINE, and the TAPE "is empty then"
    private static void rulesOfNoBytes() {
        DryWells x = RigTest.rigAtVillage();
        Check.rulesOf(x, "salt 0; rest 9; dry 1;");
        Check.feedText(x, THREE_LINES);
        Check.due("rules(0)", x.rules(0), 0);
        Check.due("the TAPE is empty", x.rules(1), -2);
        Check.due("salt 999 again", x.drill(1, true, 999), 1);
        Check.due("rest 0 again", x.count(2), 2);
    }

    // 3: "(it is empty then)"
    private static void restOfTapeIsGone() {
        for (int n = 0; n <= 20; n++) {
            DryWells x = new DryWells();
            Check.feedText(x, THREE_LINES + THREE_LINES);
            x.rules(n);
            Check.due("empty behind rules(" + n + ")", x.rules(1), -2);
            Check.due("empty behind rules(" + n + ")", x.feed(0, 0, 0, 0, 0), 20);
        }
    }

    // Terms: "(the length, if more must come)": what stands behind n isn't looked at
    private static void cutOffLines() {
        cut("salt 1000;", 8, 1, 8);
        cut("salt 1000;", 9, 2, 5);
        cut("dry 10;", 5, 1, 5);
        cut("dry 10;", 6, 2, 4);
        cut("salty 1;", 4, 1, 4);
        cut("salty 1;", 5, 1, 0);
        cut("rest   4;", 6, 1, 6);
        cut("rest 4  ;", 8, 1, 8);
        cut("dry 4;dry 4;", 8, 1, 6);
        cut("dry 4;dry 4;", 9, 3, 6);
    }

    private static void cut(String text, int n, int fault, int place) {
        DryWells x = new DryWells();
        Check.feedText(x, text);
        Check.due("the first " + n + " of " + text, x.rules(n), NONE);
        Check.due("FAULT of the first " + n + " of " + text, x.fault(0), fault);
        Check.due("its place", x.fault(1), place);
    }

    private static void faultEmptiesTape() {
        for (String text : new String[] {"?", "dry 0;", "dry 1;dry 1;"}) {
            DryWells x = new DryWells();
            Check.feedText(x, text + " ".repeat(40));
            Check.due("rules of " + text, x.rules(40), NONE);
            Check.due("empty behind " + text, x.rules(1), -2);
            Check.due("empty behind " + text, x.feed(0, 0, 0, 0, 0), 20);
        }
    }

    // 3: "NONE with a FAULT": there are no such RULES, so those that were told stay
    private static void faultKeepsRules() {
        for (String text : new String[] {"salt 999;rest 0;?", "salt 999;rest 0;dry 0;", "salt 999;rest 0;rest 0;"}) {
            DryWells x = RigTest.rigAtVillage();
            Check.rulesOf(x, "salt 5; rest 3; dry 1;");
            Check.due("rules of " + text, Check.rulesOf(x, text), NONE);
            Check.due("salt as it was", x.drill(1, true, 6), 2);
            Check.due("rest as it was", x.count(2), 5);
            Check.due("dry as it was", x.look(1, 2), 2);
        }
    }

    // 3: "are the RULES from now on": a LINE that isn't told now is untold, whatever was told ahead
    private static void untoldAgain() {
        DryWells x = RigTest.rigAtVillage();
        Check.rulesOf(x, "salt 5; rest 3; dry 1;");
        Check.rulesOf(x, "rest 2;");
        Check.due("salt is untold", x.drill(1, true, 999), 1);
        Check.due("rest is told", x.count(2), 4);
        DryWells y = RigTest.rigAtVillage();
        Check.rulesOf(y, "dry 1; rest 3;");
        y.drill(1, false, 0);
        Check.due("dry is told", y.look(1, 2), 2);
        Check.rulesOf(y, "salt 5;");
        Check.due("dry is untold", y.look(1, 2), 0);
        Check.due("salt is told", y.drill(1, true, 6), 2);
        Check.due("rest is untold", y.count(2), 6);
        DryWells z = RigTest.rigAtVillage();
        for (int i = 0; i < 8; i++) {
            z.drill(1, false, 0);
        }
        Check.rulesOf(z, "dry 8;");
        Check.due("eight holes by dry 8", z.look(1, 2), 2);
        z.rules(0);
        Check.due("eight holes by dry 9, untold", z.look(1, 2), 0);
    }

    // 3: "(What was SALTED stays so, WELLS too.)"
    private static void saltedAndWellsStay() {
        DryWells x = RigTest.rigAtVillage();
        Check.rulesOf(x, "salt 10;");
        x.drill(1, true, 11);
        x.go(2);
        x.drill(1, true, 10);
        for (String text : new String[] {"", "salt 999;", "salt 0; dry 1;", "salt 11;"}) {
            Check.rulesOf(x, text);
            Check.due("SALTED stays", x.look(1, 3), 1);
            Check.due("no WELL comes of it", x.look(1, 4), NONE);
            Check.due("the WELL stays", x.look(2, 2), 1);
            Check.due("its PIPES stay", x.look(2, 4), 1);
            Check.due("it is no bad hole", x.look(2, 3), 0);
        }
    }

    private static boolean isBlank(int sign) {
        return sign == 10 || sign == 32;
    }

    private static boolean isDigit(int sign) {
        return sign >= 48 && sign <= 57;
    }

    /** The text with the sign in it has no FAULT (place NONE) or that one. */
    private static void dueFault(String text, int fault, int place) {
        DryWells x = new DryWells();
        int lines = Check.rulesOf(x, text);
        Check.due("rules of '" + text + "' are told", lines >= 0, fault == 0);
        Check.due("fault(0) of '" + text + "'", x.fault(0), fault);
        Check.due("fault(1) of '" + text + "'", x.fault(1), place);
    }

    // Terms: "Blanks 10, 32", and of all 256 bytes no other may stand alone
    private static void eachByteAlone() {
        for (int sign = 0; sign <= 255; sign++) {
            dueFault("" + (char) sign, isBlank(sign) ? 0 : 1, isBlank(sign) ? NONE : 0);
        }
    }

    // Terms: "Words are small letters in a row"
    private static void eachByteBehindWord() {
        for (int sign = 0; sign <= 255; sign++) {
            String text = "dry" + (char) sign + "1;";
            if (isBlank(sign) || sign == '0') {
                dueFault(text, 0, NONE);
            } else if (isDigit(sign)) {
                dueFault(text, 2, 3);
            } else {
                dueFault(text, 1, sign >= 'a' && sign <= 'z' ? 0 : 3);
            }
        }
    }

    // Terms: "N: digits", then ';'
    private static void eachByteBehindNumber() {
        for (int sign = 0; sign <= 255; sign++) {
            String text = "dry 1" + (char) sign;
            if (isDigit(sign)) {
                dueFault(text, 2, 4);
            } else if (sign == ';') {
                dueFault(text, 0, NONE);
            } else {
                dueFault(text, 1, isBlank(sign) ? 6 : 5);
            }
        }
    }

    private static void eachByteBehindLine() {
        for (int sign = 0; sign <= 255; sign++) {
            String text = "dry 1;" + (char) sign;
            dueFault(text, isBlank(sign) ? 0 : 1, isBlank(sign) ? NONE : 6);
        }
    }

    // Terms: "salt 0 .. 999, dry 1 .. 9, rest 0 .. 9"; "2 an N beyond what is said (at it)"
    private static void numbersAtTheirEnds() {
        for (int number = 0; number <= 1100; number++) {
            dueFault("salt " + number + ";", number > 999 ? 2 : 0, number > 999 ? 5 : NONE);
            boolean noDry = number < 1 || number > 9;
            dueFault("dry " + number + ";", noDry ? 2 : 0, noDry ? 4 : NONE);
            dueFault("rest " + number + ";", number > 9 ? 2 : 0, number > 9 ? 5 : NONE);
        }
        dueFault("dry 000;", 2, 4);
        dueFault("dry 0009;", 0, NONE);
        dueFault("dry 0010;", 2, 4);
        dueFault("salt 000000;", 0, NONE);
        dueFault("salt 0001000;", 2, 5);
        dueFault("rest 0000;", 0, NONE);
    }

    /** Digits whose number is far beyond int and long, and 5 or 0 if it were wrapped round. */
    private static void numbersThatWrapRound() {
        String[] wraps = {"4294967301", "8589934597", "18446744073709551621", "36893488147419103237",
            "4294967296", "18446744073709551616", "2147483648", "9223372036854775808", "100005", "65541", "1285",
            "340282366920938463463374607431768211461", "9".repeat(100), "1" + "0".repeat(150), "5" + "0".repeat(32)};
        for (String digits : wraps) {
            dueFault("dry " + digits + ";", 2, 4);
            dueFault("rest " + digits + ";", 2, 5);
            dueFault("salt " + digits + ";", 2, 5);
        }
        dueFault("rest " + "0".repeat(190) + "5;", 0, NONE);
        dueFault("rest " + "0".repeat(190) + "10;", 2, 5);
    }

    private static void blanksAnywhere() {
        dueFault("", 0, NONE);
        dueFault(" ".repeat(200), 0, NONE);
        dueFault("\n".repeat(200), 0, NONE);
        dueFault("salt5;dry2;rest1;", 0, NONE);
        dueFault("\n\n salt \n 5 \n\n ; dry\n2\n;\nrest\n1\n;\n", 0, NONE);
        dueFault("sa lt 5;", 1, 0);
        dueFault("salt 5 0;", 1, 7);
        dueFault("salt 5\n0;", 1, 7);
    }

    // Terms: "(another word, too)"
    private static void wordsNearby() {
        String[] words = {"s", "sal", "salts", "saltsalt", "tlas", "d", "dr", "dryy", "yrd", "r", "res", "rests", "tser",
            "drysalt", "wet", "a", "z", "abcdefghijklmnopqrstuvwxyz",
            "malt", "salz", "wry", "drz", "best", "resz"};
        for (String word : words) {
            dueFault(word + " 1;", 1, 0);
            dueFault("rest 1; " + word + " 1;", 1, 8);
            dueFault("rest " + word + ";", 1, 5);
            dueFault("rest 1" + word + ";", 1, 6);
        }
        for (String word : new String[] {"Salt", "sAlt", "SALT", "dRy", "resT"}) {
            dueFault(word + " 1;", 1, 0);
        }
    }

    // Terms: "FAULTS, the first along the text"
    private static void firstFaultAlongTheText() {
        dueFault("dry 0;?", 2, 4);
        dueFault("?dry 0;", 1, 0);
        dueFault("dry 1;dry 0;", 3, 6);
        dueFault("dry 0;dry 1;", 2, 4);
        dueFault("dry 1;rest 10;dry 1;", 2, 11);
        dueFault("dry 1;dry 1;rest 10;", 3, 6);
        dueFault("dry 1;dry", 3, 6);
        dueFault("dry 1;dry ?", 3, 6);
        dueFault("dry 99", 2, 4);
        dueFault("dry 99?", 2, 4);
        dueFault("dry 1 99;", 1, 6);
        dueFault("99;", 1, 0);
    }

    // Terms: "3 a LINE told already (at its word)"
    private static void linesToldAlready() {
        dueFault("salt 1;salt 1;", 3, 7);
        dueFault("salt 1;dry 1;salt 1;", 3, 13);
        dueFault("rest 0;dry 1;salt 1; rest 0;", 3, 21);
        dueFault("rest 0;rest 0;", 3, 7);
        dueFault("salt 999;\n\nsalt 999;", 3, 11);
        DryWells x = new DryWells();
        Check.due("told in an earlier text", Check.rulesOf(x, "dry 1;"), 1);
        Check.due("isn't told already", Check.rulesOf(x, "dry 1;"), 1);
        Check.due("nor behind a FAULT", Check.rulesOf(x, "rest 1;?"), NONE);
        Check.due("nor behind a FAULT", Check.rulesOf(x, "rest 1;"), 1);
    }

    // 4: "Of the latest rules() that was not -2" where there is none
    private static void faultAheadOfAnyRules() {
        DryWells x = new DryWells();
        x.rules(1);
        x.rules(-1);
        Check.due("fault(0) ahead of any", x.fault(0), 0);
        Check.due("fault(1) ahead of any", x.fault(1), NONE);
    }

    // 4: "Of the latest rules() that was not -2, what 0: its FAULT (0), 1: its place (NONE without)"
    private static void faultOfTheLatest() {
        DryWells x = new DryWells();
        Check.rulesOf(x, "dry 1;dry 1;");
        x.rules(-1);
        x.rules(1);
        x.rules(Integer.MAX_VALUE);
        Check.due("fault(0) behind -2", x.fault(0), 3);
        Check.due("fault(1) behind -2", x.fault(1), 6);
        Check.rulesOf(x, "?");
        Check.due("fault(0) of the next", x.fault(0), 1);
        Check.due("fault(1) at 0", x.fault(1), 0);
        x.rules(0);
        x.rules(-1);
        Check.due("fault(0) without", x.fault(0), 0);
        Check.due("fault(1) without", x.fault(1), NONE);
    }
}
