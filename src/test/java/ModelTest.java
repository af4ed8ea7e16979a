import java.util.Random;

/** All promises: long runs of calls drawn by seed, each answer beside that of the Model. */
public final class ModelTest {
    private static final int RUNS = 300;
    private static final int CALLS = 512;
    private static final int[] FAR = {Integer.MIN_VALUE, Integer.MAX_VALUE, -2, -1, 0, 200, 10000};
    private static final String[] PIECES = {"salt", "dry", "rest", " ", "\n", ";", "0", "1", "5", "9", "10",
        "999", "1000", "x", "salt 3;", "dry 1;", "dry 2;", "rest 1;", "rest 0;", "salt 500;", "\t", "?"};

    private final Random random;
    private final DryWells real = new DryWells();
    private final Model model = new Model();
    private final String name;

    private ModelTest(int seed) {
        random = new Random(seed);
        name = "seed " + seed + ", ";
    }

    public static void main(String[] args) {
        for (int seed = 0; seed < RUNS; seed++) {
            new ModelTest(seed).run();
        }
        Check.end("ModelTest");
    }

    private void run() {
        int kind = random.nextInt(3);
        if (kind > 0) {
            setUp(kind == 1);
        }
        for (int i = 0; i < CALLS - 60; i++) {
            step(random.nextInt(100));
        }
    }

    /** A number between two, once in a while one beside them or far away. */
    private int some(int least, int most) {
        int draw = random.nextInt(40);
        if (draw == 0) {
            return FAR[random.nextInt(FAR.length)];
        }
        if (draw == 1) {
            return random.nextBoolean() ? least - 1 : most + 1;
        }
        return least + random.nextInt(most - least + 1);
    }

    private void setUp(boolean alike) {
        for (int i = 0; i < 1 + random.nextInt(4); i++) {
            rock(alike);
        }
        for (int quality = 0; quality < 3; quality++) {
            for (int pipe = 1; pipe <= 4; pipe++) {
                chance(quality, pipe, alike ? 4 * random.nextInt(4) : random.nextInt(16));
            }
        }
        for (int i = 0; i < 3 + random.nextInt(5); i++) {
            village(alike);
        }
        for (int i = 0; i < 28; i++) {
            way(random.nextInt(8), random.nextInt(8), 1 + random.nextInt(alike ? 2 : 9));
        }
    }

    private void step(int draw) {
        if (draw < 3) {
            rules();
        } else if (draw < 5) {
            rock(draw == 3);
        } else if (draw < 8) {
            chance(some(0, 2), some(1, 4), some(0, 15));
        } else if (draw < 11) {
            village(draw == 8);
        } else if (draw < 19) {
            int days = random.nextInt(4) == 0 ? DryWells.NONE : some(1, 9);
            way(some(0, 7), some(0, 7), days);
        } else if (draw < 30) {
            int place = some(0, 7);
            due("go(" + place + ")", real.go(place), model.go(place));
        } else if (draw < 40) {
            drill();
        } else if (draw < 46) {
            visit();
        } else if (draw < 48) {
            plan();
        } else {
            ask(draw);
        }
    }

    private void ask(int draw) {
        int a = some(0, 3);
        int village = some(1, 7);
        if (draw < 58) {
            int quality = some(0, 2);
            int what = some(0, 1);
            due("likely(" + a + ", " + quality + ", " + what + ")",
                    real.likely(a, quality, what), model.likely(a, quality, what));
        } else if (draw < 68) {
            int depth = some(1, 4);
            due("hope(" + village + ", " + depth + ")", real.hope(village, depth), model.hope(village, depth));
        } else if (draw < 75) {
            int age = some(1, 30);
            int what = some(0, 1);
            due("still(" + age + ", " + what + ")", real.still(age, what), model.still(age, what));
        } else if (draw < 85) {
            int what = some(0, 6);
            due("look(" + village + ", " + what + ")", Check.look(real, village, what), model.look(village, what));
        } else if (draw < 92) {
            int what = some(0, 5);
            due("count(" + what + ")", real.count(what), model.count(what));
        } else if (draw < 95) {
            int what = some(0, 1);
            due("fault(" + what + ")", real.fault(what), model.fault(what));
        } else {
            int what = some(0, 4);
            int k = some(0, 6);
            due("planned(" + what + ", " + k + ")", real.planned(what, k), model.planned(what, k));
        }
    }

    private void due(String call, long got, long want) {
        Check.due(name + call, got, want);
    }

    private void rules() {
        StringBuilder text = new StringBuilder();
        int pieces = random.nextInt(8);
        boolean whole = random.nextBoolean();
        for (int i = 0; i < pieces; i++) {
            text.append(PIECES[whole ? 14 + random.nextInt(6) : random.nextInt(PIECES.length)]);
        }
        while (text.length() % 20 != 0) {
            text.append(random.nextInt(20) == 0 ? (char) random.nextInt(256) : ' ');
        }
        for (int from = 0; from < text.length(); from += 20) {
            int[] n = new int[5];
            for (int i = 0; i < 20; i++) {
                n[i / 4] = n[i / 4] << 8 | text.charAt(from + i);
            }
            due("feed", real.feed(n[0], n[1], n[2], n[3], n[4]), model.feed(n));
        }
        if (random.nextInt(4) > 0) {
            int n = some(0, Math.max(0, text.length()));
            int length = random.nextBoolean() ? text.length() : n;
            due("rules(" + length + ") of '" + text + "'", real.rules(length), model.rules(length));
            due("fault(0)", real.fault(0), model.fault(0));
            due("fault(1)", real.fault(1), model.fault(1));
        }
    }

    private void rock(boolean alike) {
        int a = alike ? 1 : some(1, 99);
        int b = alike ? 1 : some(1, 99);
        int c = alike ? 1 : some(1, 99);
        due("rock", real.rock(a, b, c), model.rock(a, b, c));
    }

    private void chance(int quality, int pipe, int of16) {
        boolean got = real.chance(quality, pipe, of16);
        Check.due(name + "chance", got, model.chance(quality, pipe, of16));
    }

    private void village(boolean alike) {
        int rock = some(0, 3);
        int people = alike ? 100 * (1 + random.nextInt(2)) : some(1, 9999);
        due("village", real.village(rock, people), model.village(rock, people));
    }

    private void way(int a, int b, int days) {
        Check.due(name + "way", real.way(a, b, days), model.way(a, b, days));
    }

    private void drill() {
        int k = some(1, random.nextBoolean() ? 1 : 4);
        boolean water = random.nextInt(3) == 0;
        int salt = some(0, 999);
        due("drill(" + k + ", " + water + ", " + salt + ")",
                real.drill(k, water, salt), model.drill(k, water, salt));
    }

    private void visit() {
        int village = some(1, 7);
        int age = some(1, 30);
        boolean runs = random.nextBoolean();
        Check.due(name + "visit", real.visit(village, age, runs), model.visit(village, age, runs));
    }

    private void plan() {
        int pipes = some(0, random.nextBoolean() ? 8 : 28);
        int days = some(0, random.nextBoolean() ? 20 : 99);
        String call = "plan(" + pipes + ", " + days + ")";
        due(call, real.plan(pipes, days), model.plan(pipes, days));
        for (int what = 0; what <= 4; what++) {
            for (int k = 0; k <= 7; k++) {
                due(call + ", planned(" + what + ", " + k + ")", real.planned(what, k), model.planned(what, k));
            }
        }
    }
}
