import java.math.BigInteger;

/** The edges in the sentences of promises 5, 6, 11 and 12 and their Terms, each by a test of its own. */
public final class EdgesRocksTest {
    private static final int NONE = DryWells.NONE;
    private static final int WHOLE = 1 << 20;

    public static void main(String[] args) {
        priorsAtTheirEnds();
        numbersFromZeroOn();
        chancesAtTheirEnds();
        chancesAreForAllRocks();
        chanceIsOfItsPipeAlone();
        chanceTakenBack();
        weightWithoutHoles();
        weightOfEachPipe();
        weightByChancesNow();
        weightOfHolesOfOtherVillages();
        weightOfSaltedHoles();
        weightOfAnotherRockStays();
        likelyOfNothing();
        likelyOfNothingForAWhile();
        likelyOfZeroAndOne();
        likelyInLeastTerms();
        likelyBeyondInt();
        hopeWithoutChances();
        hopeAtItsGreatest();
        hopeIsCut();
        hopeOfNothingLikely();
        hopeByDepths();
        hopeOfNewHolesEverywhere();
        hopeDoesNotLookAtPipes();
        hopeOfGreatNumbers();
        Check.end("EdgesRocksTest");
    }

    // Terms: "PRIORS (1 .. 99 each)"
    private static void priorsAtTheirEnds() {
        int[] ends = {1, 99};
        for (int i = 0; i < 8; i++) {
            DryWells x = new DryWells();
            int a = ends[i & 1];
            int b = ends[i >> 1 & 1];
            int c = ends[i >> 2];
            Check.due("rock(" + a + ", " + b + ", " + c + ")", x.rock(a, b, c), 0);
            long divisor = BigInteger.valueOf(b).gcd(BigInteger.valueOf(a + b + c)).longValue();
            RocksTest.dueLikely(x, 0, 1, b / divisor, (a + b + c) / divisor);
        }
    }

    // Terms: "ROCKS, at most 4, numbered from 0 on"; a refused one takes no number
    private static void numbersFromZeroOn() {
        DryWells x = new DryWells();
        for (int number = 0; number < 4; number++) {
            Check.due("a refused ROCK", x.rock(0, 1, 1), NONE);
            Check.due("likely ahead of ROCK " + number, x.likely(number, 0, 0), NONE);
            Check.due("a VILLAGE ahead of ROCK " + number, x.village(number, 1), NONE);
            Check.due("ROCK " + number, x.rock(1, 1, number + 1), number);
            Check.due("ROCKS", x.count(0), number + 1);
            RocksTest.dueLikely(x, number, 0, 1, number + 3);
        }
        Check.due("a fifth ROCK", x.rock(1, 1, 1), NONE);
        Check.due("ROCKS", x.count(0), 4);
        Check.due("likely of a fifth", x.likely(4, 0, 0), NONE);
        RocksTest.dueLikely(x, 3, 0, 1, 6);
    }

    /** One ROCK with equal PRIORS and one VILLAGE on it. */
    private static DryWells oneVillage() {
        DryWells x = new DryWells();
        x.rock(1, 1, 1);
        x.village(0, 1);
        return x;
    }

    // Terms: "0 .. 15 of 16", QUALITIES 0 .. 2, PIPES 1 .. 4
    private static void chancesAtTheirEnds() {
        for (int quality = 0; quality <= 2; quality++) {
            for (int pipe = 1; pipe <= 4; pipe++) {
                for (int of16 = 0; of16 <= 15; of16++) {
                    DryWells x = oneVillage();
                    Check.due("chance " + of16, x.chance(quality, pipe, of16), true);
                    Check.due("hope of it", x.hope(1, 4), (of16 << 16) / 3);
                    Check.due("hope ahead of it", pipe == 1 ? 0 : x.hope(1, pipe - 1), 0);
                }
            }
        }
    }

    // Terms: "CHANCES, for all ROCKS", those too that come later
    private static void chancesAreForAllRocks() {
        DryWells x = new DryWells();
        Check.due("a CHANCE ahead of any ROCK", x.chance(2, 1, 8), true);
        for (int rock = 0; rock < 4; rock++) {
            x.rock(1, 1, 2);
            x.village(rock, 1);
            Check.due("hope on ROCK " + rock, x.hope(rock + 1, 1), WHOLE / 4);
        }
        x.chance(2, 1, 4);
        for (int rock = 0; rock < 4; rock++) {
            Check.due("hope on ROCK " + rock, x.hope(rock + 1, 1), WHOLE / 8);
        }
    }

    private static void chanceIsOfItsPipeAlone() {
        DryWells x = oneVillage();
        for (int pipe = 1; pipe <= 4; pipe++) {
            x.chance(0, pipe, 8);
            x.chance(1, pipe, 8);
            x.chance(2, pipe, 8);
            for (int depth = 1; depth <= 4; depth++) {
                int met = Math.min(depth, pipe);
                Check.due("hope by " + depth + " with " + pipe, x.hope(1, depth), WHOLE - (WHOLE >> met));
            }
        }
    }

    private static void chanceTakenBack() {
        DryWells x = oneVillage();
        x.chance(0, 1, 15);
        Check.due("chance 0", x.chance(0, 1, 0), true);
        Check.due("hope without it", x.hope(1, 4), 0);
    }

    // Terms: "WEIGHT of a QUALITY: its PRIOR" where no PIPE was
    private static void weightWithoutHoles() {
        DryWells x = new DryWells();
        x.rock(10, 20, 30);
        x.chance(0, 1, 15);
        RocksTest.dueLikely(x, 0, 0, 1, 6);
        RocksTest.dueLikely(x, 0, 1, 1, 3);
        RocksTest.dueLikely(x, 0, 2, 1, 2);
    }

    // Terms: "times for each such PIPE the CHANCE that it met what it met", k from 1 to 4
    private static void weightOfEachPipe() {
        int[] of16 = {2, 3, 5, 7};
        for (int k = 1; k <= 4; k++) {
            DryWells wet = RigTest.rigAtVillage();
            DryWells barren = RigTest.rigAtVillage();
            for (int pipe = 1; pipe <= 4; pipe++) {
                for (int quality = 0; quality <= 2; quality++) {
                    wet.chance(quality, pipe, quality == 0 ? of16[pipe - 1] : 1);
                    barren.chance(quality, pipe, quality == 0 ? of16[pipe - 1] : 1);
                }
            }
            wet.drill(k, true, 0);
            barren.drill(k, false, 0);
            long none = 1;
            long others = 1;
            for (int pipe = 1; pipe < k; pipe++) {
                none *= 16 - of16[pipe - 1];
                others *= 15;
            }
            dueShare(wet, none * of16[k - 1], others);
            dueShare(barren, none * (16 - of16[k - 1]), others * 15);
        }
    }

    /** QUALITY 0 of ROCK 0 has the first WEIGHT, the two others the second each. */
    private static void dueShare(DryWells x, long first, long other) {
        BigInteger upper = BigInteger.valueOf(first);
        BigInteger lower = BigInteger.valueOf(first + 2 * other);
        BigInteger divisor = upper.gcd(lower);
        RocksTest.dueLikely(x, 0, 0, upper.divide(divisor).longValue(), lower.divide(divisor).longValue());
    }

    // Terms: "(of 16, as CHANCES are now)"
    private static void weightByChancesNow() {
        DryWells x = RigTest.rigAtVillage();
        x.drill(1, false, 0);
        RocksTest.dueLikely(x, 0, 0, 1, 3);
        x.chance(0, 1, 8);
        RocksTest.dueLikely(x, 0, 0, 1, 5);
        x.chance(1, 1, 15);
        x.chance(2, 1, 15);
        RocksTest.dueLikely(x, 0, 0, 4, 5);
        x.chance(0, 1, 0);
        x.chance(1, 1, 0);
        x.chance(2, 1, 0);
        RocksTest.dueLikely(x, 0, 0, 1, 3);
    }

    // "what each hole changes for all villages on that rock"
    private static void weightOfHolesOfOtherVillages() {
        DryWells x = RigTest.rigAtVillage();
        x.chance(0, 1, 8);
        x.drill(1, false, 0);
        x.go(2);
        x.drill(1, false, 0);
        // 8 * 8, 16 * 16, 16 * 16
        RocksTest.dueLikely(x, 0, 0, 1, 9);
        Check.due("hope at 1", x.hope(1, 1), WHOLE / 18);
        Check.due("hope at 2", x.hope(2, 1), WHOLE / 18);
    }

    /** A SALTED hole met water all the same. */
    private static void weightOfSaltedHoles() {
        DryWells x = RigTest.rigAtVillage();
        Check.rulesOf(x, "salt 0;");
        x.chance(0, 1, 8);
        x.chance(1, 1, 4);
        x.drill(1, true, 1);
        RocksTest.dueLikely(x, 0, 0, 2, 3);
        RocksTest.dueLikely(x, 0, 1, 1, 3);
        RocksTest.dueLikely(x, 0, 2, 0, 1);
    }

    private static void weightOfAnotherRockStays() {
        DryWells x = RigTest.rigAtVillage();
        x.rock(1, 2, 3);
        x.chance(0, 1, 8);
        x.drill(1, true, 0);
        RocksTest.dueLikely(x, 0, 0, 1, 1);
        RocksTest.dueLikely(x, 1, 0, 1, 6);
        RocksTest.dueLikely(x, 1, 2, 1, 2);
    }

    // Terms: "(if all are 0: nothing is LIKELY)"; 11: "NONE: .. or nothing is LIKELY"
    private static void likelyOfNothing() {
        for (int k = 1; k <= 4; k++) {
            DryWells x = RigTest.rigAtVillage();
            for (int pipe = 1; pipe <= 4; pipe++) {
                x.chance(0, pipe, pipe == k ? 0 : 15);
            }
            x.drill(k, true, 0);
            for (int quality = 0; quality <= 2; quality++) {
                Check.due("nothing LIKELY, upper", x.likely(0, quality, 0), NONE);
                Check.due("nothing LIKELY, lower", x.likely(0, quality, 1), NONE);
            }
        }
    }

    private static void likelyOfNothingForAWhile() {
        DryWells x = RigTest.rigAtVillage();
        x.drill(1, true, 0);
        Check.due("nothing LIKELY", x.likely(0, 0, 0), NONE);
        x.chance(1, 1, 1);
        RocksTest.dueLikely(x, 0, 1, 1, 1);
        x.chance(1, 1, 0);
        Check.due("nothing LIKELY again", x.likely(0, 1, 1), NONE);
    }

    // 11: "(least terms)" of none and of all
    private static void likelyOfZeroAndOne() {
        DryWells x = RigTest.rigAtVillage();
        x.chance(1, 1, 6);
        x.drill(1, true, 0);
        RocksTest.dueLikely(x, 0, 0, 0, 1);
        RocksTest.dueLikely(x, 0, 1, 1, 1);
        RocksTest.dueLikely(x, 0, 2, 0, 1);
    }

    private static void likelyInLeastTerms() {
        DryWells x = new DryWells();
        x.rock(99, 99, 99);
        x.rock(96, 48, 48);
        x.rock(97, 89, 83);
        RocksTest.dueLikely(x, 0, 2, 1, 3);
        RocksTest.dueLikely(x, 1, 0, 1, 2);
        RocksTest.dueLikely(x, 1, 1, 1, 4);
        RocksTest.dueLikely(x, 2, 2, 83, 269);
    }

    /** 8 PIPES, with numbers that have nothing in common: both parts are far beyond int. */
    private static void likelyBeyondInt() {
        DryWells x = new DryWells();
        x.rock(99, 98, 97);
        x.village(0, 1);
        x.way(0, 1, 1);
        x.go(1);
        for (int pipe = 1; pipe <= 4; pipe++) {
            x.chance(0, pipe, 1);
            x.chance(1, pipe, 3);
            x.chance(2, pipe, 5);
        }
        for (int i = 0; i < 8; i++) {
            x.drill(1, false, 0);
        }
        BigInteger[] weights = {power(99, 15), power(98, 13), power(97, 11)};
        BigInteger all = weights[0].add(weights[1]).add(weights[2]);
        for (int quality = 0; quality <= 2; quality++) {
            BigInteger divisor = weights[quality].gcd(all);
            RocksTest.dueLikely(x, 0, quality, weights[quality].divide(divisor).longValueExact(),
                    all.divide(divisor).longValueExact());
        }
        Check.due("beyond int", x.likely(0, 0, 1) > Integer.MAX_VALUE, true);
    }

    private static BigInteger power(int prior, int base) {
        return BigInteger.valueOf(base).pow(8).multiply(BigInteger.valueOf(prior));
    }

    private static void hopeWithoutChances() {
        DryWells x = oneVillage();
        for (int depth = 1; depth <= 4; depth++) {
            Check.due("hope without CHANCES", x.hope(1, depth), 0);
        }
    }

    /** It is never all: 15 of 16 by each PIPE. */
    private static void hopeAtItsGreatest() {
        DryWells x = oneVillage();
        for (int i = 0; i < 12; i++) {
            x.chance(i / 4, i % 4 + 1, 15);
        }
        for (int depth = 1; depth <= 4; depth++) {
            Check.due("greatest HOPE by " + depth, x.hope(1, depth), WHOLE - (WHOLE >> 4 * depth));
        }
    }

    // Terms: "in parts of 2 to the 20, cut"
    private static void hopeIsCut() {
        DryWells x = oneVillage();
        x.chance(0, 1, 1);
        Check.due("1 of 48, cut from 21845.33", x.hope(1, 1), 21845);
        x.chance(1, 1, 1);
        Check.due("2 of 48, cut from 43690.66", x.hope(1, 1), 43690);
        DryWells y = new DryWells();
        y.rock(1, 99, 99);
        y.village(0, 1);
        y.chance(0, 4, 1);
        Check.due("1 of 199 * 16, cut from 329.32", y.hope(1, 4), 329);
        y.rock(99, 99, 1);
        y.village(1, 1);
        y.chance(0, 4, 0);
        y.chance(2, 4, 15);
        Check.due("15 of 199 * 16, cut from 4939.8", y.hope(2, 4), 4939);
    }

    // Terms: "(0 if nothing is LIKELY)"
    private static void hopeOfNothingLikely() {
        DryWells x = RigTest.rigAtVillage();
        x.chance(0, 2, 15);
        x.drill(1, true, 0);
        for (int depth = 1; depth <= 4; depth++) {
            Check.due("no HOPE where the WELL is", x.hope(1, depth), 0);
            Check.due("no HOPE on that ROCK", x.hope(2, depth), 0);
        }
        x.rock(1, 1, 1);
        x.village(1, 1);
        Check.due("HOPE on another ROCK", x.hope(3, 2), (15 << 16) / 3);
    }

    // Terms: "if none was by those ahead": a depth of d tries all PIPES up to it
    private static void hopeByDepths() {
        DryWells x = oneVillage();
        int[] of16 = {1, 2, 3, 4};
        long none = 1;
        for (int pipe = 1; pipe <= 4; pipe++) {
            for (int quality = 0; quality <= 2; quality++) {
                x.chance(quality, pipe, of16[pipe - 1]);
            }
            none *= 16 - of16[pipe - 1];
            long met = (1L << 4 * pipe) - none;
            Check.due("hope by " + pipe, x.hope(1, pipe), (met << 20) >> 4 * pipe);
        }
    }

    // Terms: "a new hole there": where a WELL is, and where it is GIVEN UP, too
    private static void hopeOfNewHolesEverywhere() {
        DryWells x = RigTest.rigAtVillage();
        Check.rulesOf(x, "dry 1;");
        for (int quality = 0; quality <= 2; quality++) {
            x.chance(quality, 1, 8);
        }
        x.drill(1, true, 0);
        x.go(2);
        x.drill(1, false, 0);
        Check.due("with a WELL", x.look(1, 2), 1);
        Check.due("GIVEN UP", x.look(2, 2), 2);
        Check.due("hope by a WELL", x.hope(1, 1), WHOLE / 2);
        Check.due("hope where GIVEN UP", x.hope(2, 1), WHOLE / 2);
    }

    /** HOPE is told by the CHANCES alone, even where the ROCK bears no PIPE more. */
    private static void hopeDoesNotLookAtPipes() {
        DryWells x = RigTest.rigAtVillage();
        x.drill(4, false, 0);
        x.drill(4, false, 0);
        for (int quality = 0; quality <= 2; quality++) {
            x.chance(quality, 1, 8);
        }
        Check.due("hope behind 8 PIPES", x.hope(1, 4), WHOLE / 2);
    }

    /** The greatest WEIGHTS by the greatest depth: nothing wraps round. */
    private static void hopeOfGreatNumbers() {
        DryWells x = new DryWells();
        x.rock(99, 99, 99);
        x.village(0, 1);
        x.way(0, 1, 1);
        x.go(1);
        for (int i = 0; i < 8; i++) {
            x.drill(1, false, 0);
        }
        for (int quality = 0; quality <= 2; quality++) {
            for (int pipe = 2; pipe <= 4; pipe++) {
                x.chance(quality, pipe, 15);
            }
        }
        RocksTest.dueLikely(x, 0, 0, 1, 3);
        Check.due("hope by 4", x.hope(1, 4), WHOLE - (WHOLE >> 12));
        Check.due("hope by 1", x.hope(1, 1), 0);
    }
}
