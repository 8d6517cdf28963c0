import java.util.Arrays;
import java.util.function.Supplier;

/**
 * Each range that the document gives to an argument: every number from its one end to its other is taken, and the first
 * number beyond either end is not, nor are the ends of int. What a taken number does stands in the other tests.
 */
public final class RangeSentencesTest {
    private static final long BAD = -1, NO = -1000000000000000000L;
    private static final String[] PILES = {"p6 6 1 10;", "p12 6 1 10;", "p6 12 1 10;", "p12 12 1 10;", "p9 9 1 10;",
        "p0 0 1 10;", "p18 0 1 10;", "p0 18 1 10;"};

    private RangeSentencesTest() { }

    public static void main(String[] args) {
        told();
        done();
        places();
        numbersOfPiles();
        numbersOfColumns();
        whats();
        wouldBe();
        hunted();
        images();
        lastCall();
        standing();
        Sentences.end();
    }

    private static PileShares square() {
        return Sentences.cap(PILES[0] + PILES[1] + PILES[2] + PILES[3] + "c9 9 40;");
    }

    /** In the call, # is where the number stands; each one is tried on an object of its own. */
    private static void range(Supplier<PileShares> made, String call, int least, int greatest, long refusal) {
        for (int number = least; number <= greatest; number++) {
            long answer = Sentences.answer(made.get(), call.replace("#", "" + number));
            Sentences.due(call.replace("#", "" + number) + " is refused", answer == refusal ? 1 : 0, 0);
        }
        for (int number : new int[] {least - 1, greatest + 1, Integer.MIN_VALUE, Integer.MAX_VALUE}) {
            String beyond = call.replace("#", "" + number);
            Sentences.due(beyond, Sentences.answer(made.get(), beyond), refusal);
        }
    }

    private static void range(int promise, String words, String call, int least, int greatest, long refusal) {
        Sentences.sentence(promise, words, () -> range(RangeSentencesTest::square, call, least, greatest, refusal));
    }

    private static void told() {
        range(2, "`letter`: its code, 0 to 255", "type(#)", 0, 255, BAD);
    }

    private static void done() {
        range(5, "`stiff`: its stiffness, 1 to 9", "drives(0, 0, #, 1)", 1, 9, BAD);
        range(5, "`can`: its capacity, 1 to 99", "drives(0, 0, 1, #)", 1, 99, BAD);
        range(8, "`load`: the new load, 0 to 99", "loads(0, #)", 0, 99, BAD);
        range(10, "`mx`: the new MX, -99 to 99", "winds(#, 1)", -99, 99, BAD);
        range(10, "`my`: the new MY, -99 to 99", "winds(1, #)", -99, 99, BAD);
    }

    private static void places() {
        range(5, "`x`: coordinate of its place", "drives(#, 0, 1, 1)", -9, 9, BAD);
        range(5, "`y`: coordinate of its place", "drives(0, #, 1, 1)", -9, 9, BAD);
        range(9, "`x`: coordinate of the place", "moves(0, #, 1)", -9, 9, BAD);
        range(9, "`y`: coordinate of the place", "moves(0, 1, #)", -9, 9, BAD);
        range(17, "`x`: coordinate of the place", "press(#, 0, 0)", -9, 9, NO);
        range(17, "`y`: coordinate of the place", "press(0, #, 0)", -9, 9, NO);
        range(20, "`x`: coordinate of the place", "kern(#, 0)", -9, 9, BAD);
        range(20, "`y`: coordinate of the place", "kern(0, #)", -9, 9, BAD);
    }

    private static void numbersOfPiles() {
        Object[][] calls = {{6, "loses(#)", BAD}, {7, "mends(#)", BAD}, {12, "pile(#, 4)", NO}, {12, "pile(#, 5)", NO},
            {16, "share(#, 0)", NO}, {22, "without(#, 0)", BAD}, {27, "sees(#, 0)", BAD}};
        for (Object[] row : calls) {
            Sentences.sentence((int) row[0], "`p`: number of the pile", () -> {
                for (int piles = 0; piles <= 8; piles++) {
                    String text = String.join("", Arrays.copyOf(PILES, piles));
                    range(() -> Sentences.cap(text), (String) row[1], 0, piles - 1, (long) row[2]);
                }
            });
        }
    }

    private static void numbersOfColumns() {
        Object[][] calls = {{8, "loads(#, 1)", BAD}, {9, "moves(#, 1, 1)", BAD}, {13, "column(#, 0)", NO}};
        for (Object[] row : calls) {
            Sentences.sentence((int) row[0], "`c`: number of the column", () -> {
                for (int columns = 0; columns <= 5; columns++) {
                    String text = "c9 9 9;".repeat(columns);
                    range(() -> Sentences.cap(text), (String) row[1], 0, columns - 1, (long) row[2]);
                }
            });
        }
    }

    private static void whats() {
        range(12, "NO if there is no such pile, or what is not 0 to 5.", "pile(0, #)", 0, 5, NO);
        range(13, "NO if there is no such column, or what is not 0 to 2.", "column(0, #)", 0, 2, NO);
        range(14, "NO if what is not 0 to 4.", "sum(#)", 0, 4, NO);
        range(15, "BAD if what is not 0 to 2.", "sharing(#)", 0, 2, BAD);
        range(16, "NO if there is no such pile, or what is not 0 to 2.", "share(0, #)", 0, 2, NO);
        range(17, "NO if there is no such place, or what is not 0 or 1.", "press(0, 0, #)", 0, 1, NO);
        range(18, "BAD if what is not 0 to 2.", "most(#)", 0, 2, BAD);
        range(19, "BAD if what is not 0 or 1.", "factor(#)", 0, 1, BAD);
        range(21, "BAD if what is not 0 or 1.", "kerns(#)", 0, 1, BAD);
        range(22, "BAD if there is no such pile, or what is not 0 to 2", "without(0, #)", 0, 2, BAD);
        range(25, "`what`: 0 for the numerator, 1 for the denominator", "odds(1, #)", 0, 1, BAD);
        range(29, "BAD if what is not 0 or 1.", "spots(#)", 0, 1, BAD);
        range(33, "BAD if what is not 0 to 6.", "count(#)", 0, 6, BAD);
    }

    private static void wouldBe() {
        range(24, "`stiff`: stiffness of that pile, 1 to 9", "extra(#, 1)", 1, 9, BAD);
        range(24, "`can`: its capacity, 1 to 99", "extra(1, #)", 1, 99, BAD);
        range(25, "`x`: 0 to 10", "odds(#, 0)", 0, 10, BAD);
    }

    private static void hunted() {
        range(26, "`h`: 1 to 99", "hunts(#)", 1, 99, BAD);
        range(27, "`v`: 0 to 999", "sees(0, #)", 0, 999, BAD);
    }

    private static void images() {
        range(31, "`image`: 0 or 1", "keep(#)", 0, 1, BAD);
        Sentences.sentence(32, "`image`: 0 or 1", () -> {
            range(RangeSentencesTest::square, "back(#)", 0, 1, BAD);
            range(() -> {
                PileShares cap = square();
                Sentences.says(cap, "keep(0); keep(1)");
                return cap;
            }, "back(#)", 0, 1, BAD);
        });
    }

    private static void lastCall() {
        Sentences.sentence(Sentences.DESCRIPTION, "An object is used for at most 512 calls after it has been made", () -> {
            PileShares acted = new PileShares();
            for (int call = 1; call <= 505; call++) {
                Sentences.due("winds()", acted.winds(call % 100, -(call / 100)), 1);
            }
            Sentences.says(acted, "sum(3) = 5; undo() = 5; undo() = 4; undo() = 3; undo() = 2; undo() = 1; sum(3) = 0");
            PileShares typed = new PileShares();
            for (int call = 1; call <= 510; call++) {
                Sentences.due("type(32)", typed.type(32), call <= 160 ? call : -3);
            }
            Sentences.says(typed, "tells() = 0; count(5) = 0");
            PileShares asked = square();
            for (int call = 54; call <= 512; call++) {
                Sentences.due("ask()", asked.ask(), 0);
            }
        });
    }

    private static void standing() {
        Sentences.sentence(Sentences.DESCRIPTION, "A pile is intact or lost.", () -> {
            PileShares cap = square();
            for (int set = 0; set < 16; set++) {
                int intact = 0;
                for (int p = 0; p < 4; p++) {
                    boolean lost = (set >> p & 1) == 1;
                    boolean isLost = cap.pile(p, 4) == 0;
                    if (lost != isLost) {
                        Sentences.says(cap, (lost ? "loses(" : "mends(") + p + ")");
                    }
                    Sentences.says(cap, (lost ? "loses(" : "mends(") + p + ") = STATE; pile(" + p + ", 4) = " + (lost ? 0 : 1));
                    intact += lost ? 0 : 1;
                }
                Sentences.says(cap, "count(1) = " + intact + "; count(0) = 4");
            }
        });
        Sentences.sentence(Sentences.DESCRIPTION, "At first all of these piles are active.", () -> {
            // whatever was asked before, with fewer piles or other loads
            PileShares cap = square();
            Sentences.says(cap, "moves(0, 2, 2); sharing(2) = 1; moves(0, 0, 0); sharing(0) = 1; sharing(2) = 0; without(0, 2) = 1;"
                    + "sharing(2) = 0; share(0, 0) = 10; odds(5, 0) = 1; share(0, 0) = 10; extra(1, 1) = 0; share(0, 0) = 10;"
                    + "kerns(0) = 25; share(0, 0) = 10; spots(0) = 49; share(0, 0) = 10; ask() = 0; share(0, 0) = 10");
        });
    }
}
