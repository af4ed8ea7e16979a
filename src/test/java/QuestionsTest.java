import java.util.List;
import java.util.function.Supplier;
import java.util.function.ToLongFunction;

/** Calls that only ask (promises 4, 11, 12, 14, 16, 17, 18) change nothing; plan() what is planned alone. */
public final class QuestionsTest {
    private static final List<Supplier<DryWells>> WORLDS = List.of(Worlds::busy, Worlds::full, Worlds::atWell);

    public static void main(String[] args) {
        faults();
        likely();
        hopes();
        planned();
        still();
        looks();
        counts();
        plans();
        Check.end("QuestionsTest");
    }

    /** The same answer twice, and nothing changed between. */
    private static void asked(String call, ToLongFunction<DryWells> made) {
        for (Supplier<DryWells> world : WORLDS) {
            Twins.unchanged(call, world, made, made.applyAsLong(world.get()));
        }
    }

    private static void faults() {
        asked("fault(0)", x -> x.fault(0));
        asked("fault(1)", x -> x.fault(1));
    }

    private static void likely() {
        asked("likely(0, 0, 0)", x -> x.likely(0, 0, 0));
        asked("likely(0, 2, 1)", x -> x.likely(0, 2, 1));
    }

    private static void hopes() {
        asked("hope(1, 1)", x -> x.hope(1, 1));
        asked("hope(2, 4)", x -> x.hope(2, 4));
    }

    private static void planned() {
        for (int what = 0; what <= 4; what++) {
            int which = what;
            asked("planned(" + what + ", 0)", x -> x.planned(which, 0));
        }
    }

    private static void still() {
        asked("still(1, 0)", x -> x.still(1, 0));
        asked("still(30, 1)", x -> x.still(30, 1));
    }

    private static void looks() {
        for (int what = 0; what <= 6; what++) {
            int which = what;
            asked("look(1, " + what + ")", x -> Check.look(x, 1, which));
        }
    }

    private static void counts() {
        for (int what = 0; what <= 5; what++) {
            int which = what;
            asked("count(" + what + ")", x -> x.count(which));
        }
    }

    /** Behind other plans the same one tells the same, and the rest is as it was. */
    private static void plans() {
        for (Supplier<DryWells> world : WORLDS) {
            Supplier<DryWells> maker = () -> {
                DryWells x = world.get();
                x.plan(9, 40);
                return x;
            };
            ToLongFunction<DryWells> others = x -> {
                x.plan(28, 99);
                x.plan(0, 0);
                x.plan(2, 11);
                return x.plan(9, 40);
            };
            Twins.unchanged("plan(9, 40)", maker, others, maker.get().plan(9, 40));
        }
    }
}
