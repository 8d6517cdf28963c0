import java.util.Map;
import java.util.function.Supplier;

/**
 * The sentences under 'Errors': what a refused call answers, in which order, and that it changes nothing. Each refused
 * call is made in several scenes, and all that later calls can show is compared with a twin that was not asked.
 */
public final class RefusedSentencesTest {
    /** Out of range in every state. */
    private static final String[] ALWAYS_BAD = {"type(-1)", "type(256)", "drives(-10, 0, 1, 1)", "drives(10, 0, 1, 1)",
        "drives(0, -10, 1, 1)", "drives(0, 10, 1, 1)", "drives(1, 1, 0, 1)", "drives(1, 1, 10, 1)", "drives(1, 1, 1, 0)",
        "drives(1, 1, 1, 100)", "loses(-1)", "loses(8)", "mends(-1)", "mends(8)", "loads(-1, 1)", "loads(5, 1)", "loads(0, -1)",
        "loads(0, 100)", "moves(-1, 1, 1)", "moves(5, 1, 1)", "moves(0, -10, 1)", "moves(0, 10, 1)", "moves(0, 1, -10)",
        "moves(0, 1, 10)", "winds(-100, 1)", "winds(100, 1)", "winds(1, -100)", "winds(1, 100)", "sharing(-1)", "sharing(3)",
        "most(-1)", "most(3)", "factor(-1)", "factor(2)", "kern(-10, 0)", "kern(10, 0)", "kern(0, -10)", "kern(0, 10)",
        "kerns(-1)", "kerns(2)", "without(-1, 0)", "without(8, 0)", "without(0, -1)", "without(0, 3)", "extra(0, 1)",
        "extra(10, 1)", "extra(1, 0)", "extra(1, 100)", "odds(-1, 0)", "odds(11, 0)", "odds(0, -1)", "odds(0, 2)", "hunts(0)",
        "hunts(100)", "sees(-1, 0)", "sees(8, 0)", "sees(0, -1)", "sees(0, 1000)", "spots(-1)", "spots(2)", "keep(-1)",
        "keep(2)", "back(-1)", "back(2)", "count(-1)", "count(7)"};
    private static final String[] ALWAYS_NO = {"pile(-1, 0)", "pile(8, 0)", "pile(0, -1)", "pile(0, 6)", "column(-1, 0)",
        "column(5, 0)", "column(0, -1)", "column(0, 3)", "sum(-1)", "sum(5)", "share(-1, 0)", "share(8, 0)", "share(0, -1)",
        "share(0, 3)", "press(-10, 0, 0)", "press(10, 0, 0)", "press(0, -10, 0)", "press(0, 10, 0)", "press(0, 0, -1)",
        "press(0, 0, 2)"};
    private static final String[] READING = {"pile(0, 0)", "pile(1, 1)", "pile(2, 2)", "pile(3, 3)", "pile(2, 4)", "pile(0, 5)",
        "column(0, 0)", "column(0, 1)", "column(1, 2)", "sum(0)", "sum(1)", "sum(2)", "sum(3)", "sum(4)", "sharing(0)",
        "sharing(1)", "sharing(2)", "share(0, 0)", "share(1, 1)", "share(2, 2)", "press(0, 0, 0)", "press(9, 9, 1)", "most(0)",
        "most(1)", "most(2)", "factor(0)", "factor(1)", "kern(0, 0)", "kerns(0)", "kerns(1)", "without(0, 0)", "without(1, 1)",
        "without(2, 2)", "key()", "extra(1, 1)", "extra(9, 99)", "odds(0, 0)", "odds(5, 1)", "spots(0)", "spots(1)", "ask()",
        "count(0)", "count(1)", "count(2)", "count(3)", "count(4)", "count(5)", "count(6)"};

    private RefusedSentencesTest() { }

    public static void main(String[] args) {
        constants();
        bad();
        state();
        full();
        order();
        none();
        changesNothing();
        Sentences.end();
    }

    private static void in(String words, Runnable test) {
        Sentences.sentence(Sentences.DESCRIPTION, words, test);
    }

    private static void everywhere(String[] calls, long want) {
        for (Map.Entry<String, Supplier<PileShares>> scene : Scenes.all().entrySet()) {
            for (String call : calls) {
                Scenes.unchanged(scene.getKey(), scene.getValue(), call, want);
            }
        }
    }

    private static void refuses(String scene, String code, String... calls) {
        long want = code.equals("BAD") ? -1 : code.equals("STATE") ? -2 : -3;
        for (String call : calls) {
            Scenes.unchanged(scene, Scenes.all().get(scene), call, want);
        }
    }

    /** Read from the class as it runs: the compiler writes a constant into what uses it. */
    private static void constant(String name, long want) {
        try {
            Sentences.due(name, PileShares.class.getField(name).getLong(null), want);
        } catch (ReflectiveOperationException e) {
            Sentences.wrong("there is no constant " + name);
        }
    }

    private static void constants() {
        in("public static final int BAD = -1, STATE = -2, FULL = -3, NONE = -9;", () -> {
            constant("BAD", -1);
            constant("STATE", -2);
            constant("FULL", -3);
            constant("NONE", -9);
        });
        in("`NO = -1000000000000000000L, NOT = -2000000000000000000L`", () -> {
            constant("NO", -1000000000000000000L);
            constant("NOT", -2000000000000000000L);
        });
    }

    private static void bad() {
        in("BAD (an argument is out of its range, or there is no such thing)", () -> {
            everywhere(ALWAYS_BAD, -1);
            refuses("a new object", "BAD", "loses(0)", "mends(0)", "loads(0, 1)", "moves(0, 1, 1)", "without(0, 0)", "sees(0, 0)");
            refuses("the busy scene", "BAD", "loses(5)", "mends(5)", "loads(2, 1)", "moves(2, 1, 1)", "without(5, 0)",
                    "without(2, 3)", "sees(5, 0)");
            refuses("the lost scene", "BAD", "loses(4)", "mends(4)", "loads(1, 1)", "moves(1, 1, 1)", "without(4, 0)",
                    "without(0, 3)", "sees(4, 0)");
        });
        in("Some methods return NO instead of BAD.", () -> {
            everywhere(ALWAYS_NO, -1000000000000000000L);
            for (String call : new String[] {"pile(0, 0)", "column(0, 0)", "share(0, 0)"}) {
                Scenes.unchanged("a new object", PileShares::new, call, -1000000000000000000L);
            }
            for (String call : new String[] {"pile(5, 0)", "column(2, 0)", "share(5, 0)"}) {
                Scenes.unchanged("the busy scene", Scenes::busy, call, -1000000000000000000L);
            }
        });
    }

    private static void state() {
        in("STATE (the call is not possible now)", () -> {
            refuses("a new object", "STATE", "winds(0, 0)", "undo()", "back(0)", "back(1)");
            refuses("the busy scene", "STATE", "drives(-3, -3, 1, 1)", "drives(9, -9, 1, 1)", "loses(2)", "loses(4)", "mends(0)",
                    "mends(3)", "loads(0, 40)", "loads(1, 8)", "moves(0, 0, 0)", "moves(1, 0, 1)", "winds(2, 3)", "without(2, 0)",
                    "without(4, 1)", "without(4, 2)", "back(1)");
            refuses("the full scene", "STATE", "drives(9, 0, 2, 60)", "loses(5)", "mends(7)", "loads(4, 99)", "moves(4, 0, -1)",
                    "winds(0, 0)", "without(5, 2)");
            refuses("the failing scene", "STATE", "drives(3, 3, 1, 1)", "mends(3)", "loads(0, 40)", "moves(0, 9, 9)",
                    "winds(99, 99)", "back(0)");
            refuses("the lost scene", "STATE", "drives(3, 3, 1, 1)", "loses(0)", "loses(3)", "without(0, 0)", "without(3, 2)",
                    "winds(0, 0)");
            refuses("the endless scene", "STATE", "winds(0, 0)", "back(1)");
        });
    }

    private static void full() {
        in("FULL (there is no room)", () ->
            refuses("the full scene", "FULL", "type(0)", "type(59)", "type(255)", "drives(0, 0, 1, 1)", "drives(-9, 9, 9, 99)",
                    "sees(0, 0)", "sees(5, 0)", "sees(7, 999)"));
    }

    private static void order() {
        in("If several of them apply, the first one in this order is returned", () -> {
            // BAD and FULL, BAD and STATE, all three, STATE and FULL
            refuses("the full scene", "BAD", "type(-1)", "type(256)", "sees(8, 0)", "sees(0, 1000)", "sees(-1, -1)",
                    "drives(0, 0, 0, 1)", "drives(0, 0, 1, 100)", "drives(0, 10, 1, 1)");
            refuses("the busy scene", "BAD", "drives(-3, -3, 0, 1)", "drives(-3, -3, 10, 1)", "drives(-3, -3, 1, 0)",
                    "drives(-3, -3, 1, 100)", "without(2, -1)", "without(2, 3)", "without(4, 3)");
            refuses("the full scene", "BAD", "drives(-3, -3, 0, 1)", "drives(-3, -3, 1, 100)", "drives(9, 9, 10, 1)",
                    "drives(9, 9, 1, 0)");
            refuses("the full scene", "STATE", "drives(-3, -3, 1, 1)", "drives(9, 9, 1, 1)", "drives(9, 0, 9, 99)");
        });
    }

    private static void none() {
        in("NONE and NOT stand for \"none\"; they are returned only if no error applies.", () -> {
            for (String scene : new String[] {"a new object", "the failing scene", "the endless scene", "the lost scene"}) {
                PileShares cap = Scenes.all().get(scene).get();
                Sentences.says(cap, "sharing(2) = NONE; sharing(3) = BAD; press(0, 0, 0) = NOT; press(0, 0, 2) = NO;"
                        + "press(10, 0, 0) = NO; most(0) = NONE; most(3) = BAD; factor(1) = NONE; factor(2) = BAD;"
                        + "pile(8, 5) = NO; share(8, 0) = NO");
            }
            Sentences.says(Scenes.failing(), "share(0, 0) = NOT; share(0, 3) = NO; share(4, 0) = NO; pile(0, 5) = NONE;"
                    + "pile(0, 6) = NO; pile(4, 5) = NO; without(0, 0) = NONE; without(0, 3) = BAD; without(4, 0) = BAD;"
                    + "spots(1) = NONE; spots(2) = BAD; ask() = NONE; extra(1, 1) = NONE; extra(0, 1) = BAD");
            Sentences.says(Scenes.lost(), "share(0, 0) = NOT; share(0, 3) = NO; pile(0, 5) = NONE; pile(4, 5) = NO;"
                    + "kern(0, 0) = NONE; kern(10, 0) = BAD; kerns(0) = NONE; kerns(2) = BAD; without(0, 0) = STATE;"
                    + "without(0, 3) = BAD; key() = NONE; extra(1, 1) = NONE; extra(1, 0) = BAD; spots(1) = NONE; spots(2) = BAD;"
                    + "ask() = NONE; odds(0, 0) = 0; odds(0, 2) = BAD");
        });
    }

    private static void changesNothing() {
        in("a call that returns one of them changes nothing", () -> {
            // the refusals in a row, and what is asked behind them
            PileShares cap = Scenes.full();
            for (String call : ALWAYS_BAD) {
                Sentences.says(cap, call + " = BAD");
            }
            Sentences.says(cap, "type(0) = FULL; drives(0, 0, 1, 1) = FULL; sees(0, 0) = FULL; loses(5) = STATE; count(0) = 8;"
                    + "count(1) = 7; count(2) = 5; count(3) = 99; count(4) = 6; count(5) = 160; count(6) = 6; undo() = 5;"
                    + "count(1) = 8; undo() = 4; count(0) = 7");
            // what is only asked changes nothing either
            for (Map.Entry<String, Supplier<PileShares>> scene : Scenes.all().entrySet()) {
                for (String call : READING) {
                    Scenes.unchanged(scene.getKey(), scene.getValue(), call, Sentences.answer(scene.getValue().get(), call));
                }
            }
        });
    }
}
