/** Promises 5, 6, 11 and 12: ROCKS, CHANCES, LIKELY and HOPE. */
public final class RocksTest {
    public static void main(String[] args) {
        rocks();
        chances();
        likelyWithoutHoles();
        likelyBehindHoles();
        chancesAsTheyAreNow();
        nothingIsLikely();
        eachRockAlone();
        hopes();
        greatestNumbers();
        Check.end("RocksTest");
    }

    private static void rocks() {
        DryWells x = new DryWells();
        int[] wrong = {0, -1, 100, Integer.MIN_VALUE, Integer.MAX_VALUE};
        for (int prior : wrong) {
            Check.due("rock, first " + prior, x.rock(prior, 1, 1), DryWells.NONE);
            Check.due("rock, second " + prior, x.rock(1, prior, 1), DryWells.NONE);
            Check.due("rock, third " + prior, x.rock(1, 1, prior), DryWells.NONE);
        }
        Check.due("no ROCK came", x.count(0), 0);
        Check.due("rock 0", x.rock(1, 99, 1), 0);
        Check.due("rock 1", x.rock(99, 1, 99), 1);
        Check.due("rock 2", x.rock(1, 1, 1), 2);
        Check.due("rock 3", x.rock(1, 1, 1), 3);
        Check.due("a fifth rock", x.rock(1, 1, 1), DryWells.NONE);
        Check.due("four ROCKS", x.count(0), 4);
    }

    private static void chances() {
        DryWells x = new DryWells();
        for (int quality = 0; quality <= 2; quality++) {
            for (int pipe = 1; pipe <= 4; pipe++) {
                Check.due("chance 0", x.chance(quality, pipe, 0), true);
                Check.due("chance 15", x.chance(quality, pipe, 15), true);
            }
        }
        int[] far = {Integer.MIN_VALUE, Integer.MAX_VALUE};
        for (int number : far) {
            Check.due("chance, quality " + number, x.chance(number, 1, 1), false);
            Check.due("chance, pipe " + number, x.chance(0, number, 1), false);
            Check.due("chance, of16 " + number, x.chance(0, 1, number), false);
        }
        Check.due("chance, quality -1", x.chance(-1, 1, 1), false);
        Check.due("chance, quality 3", x.chance(3, 1, 1), false);
        Check.due("chance, pipe 0", x.chance(0, 0, 1), false);
        Check.due("chance, pipe 5", x.chance(0, 5, 1), false);
        Check.due("chance, of16 -1", x.chance(0, 1, -1), false);
        Check.due("chance, of16 16", x.chance(0, 1, 16), false);
    }

    static void dueLikely(DryWells x, int rock, int quality, long upper, long lower) {
        String call = "likely(" + rock + ", " + quality + ", ";
        Check.due(call + "0)", x.likely(rock, quality, 0), upper);
        Check.due(call + "1)", x.likely(rock, quality, 1), lower);
    }

    private static void likelyWithoutHoles() {
        DryWells x = new DryWells();
        Check.due("likely of no ROCK", x.likely(0, 0, 0), DryWells.NONE);
        x.rock(2, 3, 7);
        dueLikely(x, 0, 0, 1, 6);
        dueLikely(x, 0, 1, 1, 4);
        dueLikely(x, 0, 2, 7, 12);
        int[] wrong = {-1, Integer.MIN_VALUE, Integer.MAX_VALUE};
        for (int number : wrong) {
            Check.due("likely, rock " + number, x.likely(number, 0, 0), DryWells.NONE);
            Check.due("likely, quality " + number, x.likely(0, number, 0), DryWells.NONE);
            Check.due("likely, what " + number, x.likely(0, 0, number), DryWells.NONE);
        }
        Check.due("likely, rock 1", x.likely(1, 0, 0), DryWells.NONE);
        Check.due("likely, quality 3", x.likely(0, 3, 0), DryWells.NONE);
        Check.due("likely, what 2", x.likely(0, 0, 2), DryWells.NONE);
    }

    private static void likelyBehindHoles() {
        DryWells x = RigTest.rigAtVillage();
        x.chance(0, 1, 4);
        x.chance(0, 2, 8);
        x.chance(1, 1, 8);
        x.chance(1, 2, 2);
        x.chance(2, 1, 1);
        x.drill(2, true, 7);
        // 12 * 8, 8 * 2 and 15 * 0 of 256 each
        dueLikely(x, 0, 0, 6, 7);
        dueLikely(x, 0, 1, 1, 7);
        dueLikely(x, 0, 2, 0, 1);
        DryWells y = RigTest.rigAtVillage();
        y.chance(0, 3, 12);
        y.chance(2, 1, 15);
        y.drill(3, false, 0);
        // 16 * 16 * 4, 16 * 16 * 16, 1 * 16 * 16
        dueLikely(y, 0, 0, 4, 21);
        dueLikely(y, 0, 1, 16, 21);
        dueLikely(y, 0, 2, 1, 21);
    }

    private static void chancesAsTheyAreNow() {
        DryWells x = RigTest.rigAtVillage();
        x.chance(0, 1, 8);
        x.drill(1, true, 0);
        dueLikely(x, 0, 0, 1, 1);
        x.chance(1, 1, 4);
        dueLikely(x, 0, 0, 2, 3);
        x.chance(0, 1, 0);
        dueLikely(x, 0, 0, 0, 1);
        dueLikely(x, 0, 1, 1, 1);
    }

    private static void nothingIsLikely() {
        DryWells x = RigTest.rigAtVillage();
        x.chance(0, 2, 15);
        x.drill(1, true, 0);
        for (int quality = 0; quality <= 2; quality++) {
            Check.due("nothing is LIKELY", x.likely(0, quality, 0), DryWells.NONE);
            Check.due("nothing is LIKELY", x.likely(0, quality, 1), DryWells.NONE);
        }
        Check.due("HOPE without any LIKELY", x.hope(2, 4), 0);
    }

    private static void eachRockAlone() {
        DryWells x = RigTest.rigAtVillage();
        x.rock(1, 2, 3);
        x.village(1, 30);
        x.chance(2, 1, 8);
        x.drill(1, true, 0);
        dueLikely(x, 0, 2, 1, 1);
        dueLikely(x, 1, 2, 1, 2);
        Check.due("HOPE on the same ROCK", x.hope(2, 1), 1 << 19);
        Check.due("HOPE on the other ROCK", x.hope(3, 1), 1 << 18);
    }

    private static void hopes() {
        DryWells x = new DryWells();
        x.rock(1, 1, 1);
        x.village(0, 5);
        Check.due("hope without CHANCES", x.hope(1, 4), 0);
        x.chance(0, 1, 8);
        Check.due("hope, depth 1", x.hope(1, 1), (1 << 20) / 6);
        x.chance(0, 4, 8);
        Check.due("hope, depth 3", x.hope(1, 3), (1 << 20) / 6);
        Check.due("hope, depth 4", x.hope(1, 4), (1 << 20) / 4);
        int[] wrong = {-1, Integer.MIN_VALUE, Integer.MAX_VALUE};
        for (int number : wrong) {
            Check.due("hope, village " + number, x.hope(number, 1), DryWells.NONE);
            Check.due("hope, depth " + number, x.hope(1, number), DryWells.NONE);
        }
        Check.due("hope of the DEPOT", x.hope(0, 1), DryWells.NONE);
        Check.due("hope, village 2", x.hope(2, 1), DryWells.NONE);
        Check.due("hope, depth 0", x.hope(1, 0), DryWells.NONE);
        Check.due("hope, depth 5", x.hope(1, 5), DryWells.NONE);
    }

    /** The greatest WEIGHTS that there can be: no number may wrap round. */
    private static void greatestNumbers() {
        DryWells x = new DryWells();
        x.rock(99, 98, 97);
        x.village(0, 1);
        x.way(0, 1, 1);
        x.go(1);
        x.drill(4, false, 0);
        x.drill(4, false, 0);
        dueLikely(x, 0, 0, 33, 98);
        dueLikely(x, 0, 1, 1, 3);
        for (int quality = 0; quality <= 2; quality++) {
            x.chance(quality, 4, 15);
        }
        Check.due("all alike", x.hope(1, 4), 15 << 16);
        x.chance(0, 4, 0);
        x.chance(1, 4, 0);
        x.chance(2, 4, 1);
        // 99 * 16^8, 98 * 16^8, 97 * 16^6 * 15^2
        dueLikely(x, 0, 2, 97L * 225, 197L * 256 + 97L * 225);
        Check.due("hope of it", x.hope(1, 4), (97L * 225 << 16) / (197L * 256 + 97L * 225));
    }
}
