import java.util.ArrayList;
import java.util.LinkedHashMap;
import java.util.List;
import java.util.Map;
import java.util.function.Supplier;

/**
 * Objects in various states, and the comparison of all that a state shows: two objects are made in the same way, one of
 * them is asked, and no call may tell them apart then. A text, recorded actions and images can be seen only by calls that
 * change the object, and an object answers 512 calls only, so that each of these is looked at in an object of its own.
 */
final class Scenes {
    private static final String SQUARE = "p6 6 1 10;p12 6 1 10;p6 12 1 10;p12 12 1 10;";

    private Scenes() { }

    static Map<String, Supplier<PileShares>> all() {
        Map<String, Supplier<PileShares>> scenes = new LinkedHashMap<>();
        scenes.put("a new object", PileShares::new);
        scenes.put("the busy scene", Scenes::busy);
        scenes.put("the full scene", Scenes::full);
        scenes.put("the failing scene", Scenes::failing);
        scenes.put("the endless scene", Scenes::endless);
        scenes.put("the lost scene", Scenes::lost);
        return scenes;
    }

    /** Some of everything: 5 piles with 2 lost ones, 2 columns, 6 recorded actions, image 0, observations, a wrong text. */
    static PileShares busy() {
        PileShares cap = Sentences.cap(SQUARE + "c9 9 40;c10 10 7;w100 98;");
        Sentences.says(cap, "loses(2); keep(0); winds(2, 3); loads(1, 8); moves(1, 0, 1); drives(9, -9, 9, 99); loses(4);"
                + "mends(2); loses(2); hunts(20); sees(0, 5); sees(4, 0); sees(1, 7)");
        Sentences.write(cap, "p1 1 1 1;x");
        return cap;
    }

    /** As much of everything as there can be. */
    static PileShares full() {
        PileShares cap = Sentences.cap("c9 9 40;c10 10 7;c9 9 9;c8 9 1;c9 8 99;");
        Sentences.says(cap, "drives(-3, -3, 1, 10); drives(3, -3, 1, 20); drives(-3, 3, 2, 30); keep(0);"
                + "drives(3, 3, 3, 40); drives(-9, -9, 9, 99); keep(1); drives(9, 9, 1, 1); drives(0, 9, 1, 50);"
                + "drives(9, 0, 2, 60); loses(5); hunts(99)");
        for (int n = 0; n < 6; n++) {
            cap.sees(n, n);
        }
        Sentences.write(cap, "w1 1;" + " ".repeat(155));
        return cap;
    }

    /** Its load stands outside of its piles. */
    static PileShares failing() {
        PileShares cap = Sentences.cap(SQUARE + "c18 18 40;");
        Sentences.says(cap, "winds(99, 99); loses(3); keep(1); mends(3); sees(3, 999)");
        return cap;
    }

    /** Stable in each round, and never settled: the rounds come back to where they were. */
    static PileShares endless() {
        PileShares cap = Sentences.cap("p14 18 3 10;p10 13 3 10;p6 12 3 10;p3 12 1 10;p15 2 2 10;p10 11 2 10;c5 12 9;");
        Sentences.says(cap, "winds(1, 1); winds(0, 0); keep(0)");
        Sentences.write(cap, "p1 1 1 1");
        return cap;
    }

    /** No pile is intact. */
    static PileShares lost() {
        PileShares cap = Sentences.cap(SQUARE + "c9 9 40;");
        Sentences.says(cap, "loses(0); loses(1); loses(2); loses(3); sees(0, 0); keep(0); keep(1)");
        return cap;
    }

    static void unchanged(String scene, Supplier<PileShares> made, String call, long want) {
        Sentences.due(call + " in " + scene, Sentences.answer(made.get(), call), want);
        List<Long> before = all(made);
        List<Long> behind = all(() -> {
            PileShares cap = made.get();
            Sentences.answer(cap, call);
            return cap;
        });
        if (!before.equals(behind)) {
            Sentences.wrong(call + " in " + scene + " changed what later calls answer");
        }
    }

    private static List<Long> all(Supplier<PileShares> made) {
        List<Long> seen = new ArrayList<>();
        answers(made.get(), seen);
        for (int times = 1; times <= 7; times++) {
            PileShares undone = made.get();
            for (int i = 0; i < times; i++) {
                seen.add((long) undone.undo());
            }
            structure(undone, seen);
        }
        for (int image = 0; image < 2; image++) {
            PileShares restored = made.get();
            seen.add((long) restored.back(image));
            structure(restored, seen);
        }
        PileShares told = made.get();
        seen.add((long) told.tells());
        structure(told, seen);
        // what stands behind the end of the text must not have changed either, as far as it can be completed
        PileShares typed = made.get();
        seen.add((long) typed.type(';'));
        seen.add((long) typed.tells());
        structure(typed, seen);
        return seen;
    }

    private static void structure(PileShares cap, List<Long> seen) {
        for (int what = 0; what < 7; what++) {
            seen.add((long) cap.count(what));
        }
        int piles = cap.count(0);
        for (int p = 0; p < piles; p++) {
            for (int what = 0; what < 5; what++) {
                seen.add(cap.pile(p, what));
            }
        }
        int columns = cap.count(2);
        for (int c = 0; c < columns; c++) {
            for (int what = 0; what < 3; what++) {
                seen.add(cap.column(c, what));
            }
        }
        seen.add(cap.sum(3));
        seen.add(cap.sum(4));
    }

    private static void answers(PileShares cap, List<Long> seen) {
        structure(cap, seen);
        for (int what = 0; what < 3; what++) {
            seen.add((long) cap.sharing(what));
            seen.add(cap.most(what));
            for (int p = 0; p < cap.count(0); p++) {
                seen.add(cap.share(p, what));
            }
        }
        seen.add(cap.press(9, -9, 0));
        seen.add((long) cap.kerns(0));
        seen.add((long) cap.spots(0));
        seen.add((long) cap.spots(1));
        seen.add((long) cap.ask());
    }
}
