import java.util.NoSuchElementException;

/** What the tests share: counting answers that are not as due, and texts put on the TAPE. */
final class Check {
    static final long THROWS_INDEX = -1001;
    static final long THROWS_ELEMENT = -1002;
    static final long THROWS_ANOTHER = -1003;

    private static int right = 0;
    private static int wrong = 0;

    private Check() {
    }

    static void due(String call, long got, long want) {
        if (got == want) {
            right++;
        } else {
            wrong++;
            System.out.println(call + " answered " + got + ", due is " + want);
        }
    }

    static void due(String call, boolean got, boolean want) {
        due(call, got ? 1 : 0, want ? 1 : 0);
    }

    /** What look() answers, or THROWS_INDEX, THROWS_ELEMENT for just these two exceptions. */
    static long look(DryWells x, int village, int what) {
        try {
            return x.look(village, what);
        } catch (RuntimeException e) {
            if (e.getClass() == IndexOutOfBoundsException.class) {
                return THROWS_INDEX;
            }
            return e.getClass() == NoSuchElementException.class ? THROWS_ELEMENT : THROWS_ANOTHER;
        }
    }

    static void dueThrow(DryWells x, int village, int what, long want) {
        due("look(" + village + ", " + what + ")", look(x, village, what), want);
    }

    /** Puts a text of signs 0 to 255 behind the TAPE, filled up with spaces to twenties. */
    static void feedText(DryWells x, String text) {
        for (int from = 0; from < text.length(); from += 20) {
            int[] numbers = new int[5];
            for (int i = 0; i < 20; i++) {
                int sign = from + i < text.length() ? text.charAt(from + i) : ' ';
                numbers[i / 4] = numbers[i / 4] << 8 | sign;
            }
            x.feed(numbers[0], numbers[1], numbers[2], numbers[3], numbers[4]);
        }
    }

    static int rulesOf(DryWells x, String text) {
        feedText(x, text);
        return x.rules(text.length());
    }

    static void end(String name) {
        System.out.println(name + ": " + right + " answers as due, " + wrong + " not");
        if (wrong != 0) {
            System.exit(1);
        }
    }
}
