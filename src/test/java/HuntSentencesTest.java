/** The sentences about the unknown load that name a boundary: the promises 26 to 30. */
public final class HuntSentencesTest {
    /** Piles at (-3, -3), (3, -3), (-3, 3) and (3, 3). */
    private static final String SQUARE = "p6 6 1 10;p12 6 1 10;p6 12 1 10;p12 12 1 10;";
    /** A triangle at the first places of all; its only places are those of its piles. */
    private static final String CORNER = "p0 0 1 9;p0 1 1 9;p1 0 1 9;";
    private static final String ENDLESS = "p14 18 3 10;p10 13 3 10;p6 12 3 10;p3 12 1 10;p15 2 2 10;p10 11 2 10;";
    /** Eight piles, so far apart that each place is a spot. */
    private static final String WIDE = "p0 0 1 9;p18 0 1 9;p0 18 1 9;p18 18 1 9;p9 9 9 9;p9 0 9 9;p9 18 9 9;p14 9 1 9;";
    private static final String SIX_SIGHTS = "sees(0, 0) = 1; sees(1, 0) = 2; sees(2, 0) = 3; sees(3, 999) = 4; sees(0, 0) = 5;"
            + "sees(0, 1) = 6;";

    private HuntSentencesTest() { }

    public static void main(String[] args) {
        hunts();
        sees();
        forget();
        spots();
        spotsTrue();
        ask();
        askNone();
        Sentences.end();
    }

    private static void says(String text, String rows) {
        Sentences.says(Sentences.cap(text), rows);
    }

    private static void hunts() {
        Sentences.sentence(26, "BAD if h is out of range.", () ->
            says(SQUARE, "sees(0, 5); hunts(0) = BAD; hunts(100) = BAD; hunts(-1) = BAD; hunts(LOW) = BAD; hunts(HIGH) = BAD;"
                    + "count(3) = 10; count(4) = 1; hunts(1) = 1; count(3) = 1; hunts(99) = 0; count(3) = 99; hunts(100) = BAD;"
                    + "count(3) = 99"));
        Sentences.sentence(26, "Returns the number of observations that there were", () -> {
            Sentences.says(new PileShares(), "hunts(5) = 0");
            says(SQUARE, "hunts(10) = 0; sees(0, 1); hunts(10) = 1; hunts(10) = 0;" + SIX_SIGHTS + "hunts(20) = 6; hunts(20) = 0");
        });
        Sentences.sentence(26, "Sets the unknown load h, and removes all observations.", () ->
            // with the load 1 and with 99 the share of a pile is all of it at the pile alone
            says(SQUARE, "hunts(1); count(3) = 1; sees(0, 1); spots(0) = 1; hunts(99); count(4) = 0; spots(0) = 49; sees(0, 99);"
                    + "spots(0) = 1; spots(1) = 120; hunts(99); sees(0, 100); spots(0) = 0"));
    }

    private static void sees() {
        Sentences.sentence(27, "BAD if there is no such pile, or v is out of range", () -> {
            Sentences.says(new PileShares(), "sees(0, 0) = BAD; count(4) = 0");
            String rows = "sees(4, 0) = BAD; sees(-1, 0) = BAD; sees(8, 0) = BAD; sees(LOW, 0) = BAD; sees(HIGH, 0) = BAD;"
                    + "sees(0, -1) = BAD; sees(0, 1000) = BAD; sees(0, LOW) = BAD; sees(0, HIGH) = BAD;";
            says(SQUARE, rows + "count(4) = 0; sees(0, 0) = 1; sees(3, 999) = 2; sees(0, 999) = 3; sees(3, 0) = 4");
            // before FULL
            says(SQUARE, SIX_SIGHTS + rows + "count(4) = 6");
        });
        Sentences.sentence(27, "FULL if there are 6.", () ->
            says(SQUARE, SIX_SIGHTS + "sees(0, 0) = FULL; sees(3, 999) = FULL; count(4) = 6; forget() = 6; sees(0, 0) = 1"));
        Sentences.sentence(27, "There are at most 6.", () -> {
            // the sixth one counts as the first does
            says(SQUARE, "sees(0, 10); sees(0, 10); sees(0, 10); sees(0, 10); sees(0, 10); spots(0) = 1; sees(0, 9); spots(0) = 0");
            says(SQUARE, "sees(0, 9); sees(0, 10); sees(0, 10); sees(0, 10); sees(0, 10); sees(0, 10); spots(0) = 0");
            // the refused seventh one does not
            says(SQUARE, "sees(0, 10); sees(0, 10); sees(0, 10); sees(0, 10); sees(0, 10); sees(0, 10); sees(0, 9) = FULL; spots(0) = 1");
        });
        Sentences.sentence(27, "the share of a pile, rounded down, is v", () ->
            // 10 * 5/6 and 10 * 1/6 are rounded down; a lost pile can be seen too
            says(SQUARE, "sees(0, 8); sees(1, 1); sees(2, 0); spots(0) = 1; spots(1) = 139; forget(); loses(0); sees(0, 0) = 1;"
                    + "spots(0) = 28; sees(0, 1) = 2; spots(0) = 0"));
    }

    private static void forget() {
        Sentences.sentence(28, "Returns how many there were.", () -> {
            Sentences.says(new PileShares(), "forget() = 0");
            says(SQUARE, "forget() = 0; sees(0, 0); forget() = 1; forget() = 0;" + SIX_SIGHTS + "forget() = 6; forget() = 0");
        });
        Sentences.sentence(28, "Removes all observations.", () ->
            says(SQUARE, "hunts(44);" + SIX_SIGHTS + "spots(0) = 0; forget(); count(4) = 0; count(3) = 44; spots(0) = 49"));
    }

    private static void spots() {
        Sentences.sentence(29, "BAD if what is not 0 or 1.", () -> {
            says(SQUARE, "spots(0) = 49; spots(1) = 120; spots(-1) = BAD; spots(2) = BAD; spots(LOW) = BAD; spots(HIGH) = BAD");
            Sentences.says(new PileShares(), "spots(-1) = BAD; spots(2) = BAD");
        });
        Sentences.sentence(29, "(NONE if there is none)", () -> {
            Sentences.says(new PileShares(), "spots(0) = 0; spots(1) = NONE");
            says("p8 9 1 1;p9 9 1 1;p10 9 1 1;", "spots(0) = 0; spots(1) = NONE");
            says(SQUARE, "sees(0, 999); spots(0) = 0; spots(1) = NONE; forget(); loses(0); loses(1); spots(0) = 0; spots(1) = NONE;"
                    + "loses(2); loses(3); spots(0) = 0; spots(1) = NONE");
        });
        Sentences.sentence(29, "1 for the first one, by x and then by y, as one number", () -> {
            says(CORNER, "spots(0) = 3; spots(1) = 0; sees(0, 0); spots(0) = 2; spots(1) = 1; sees(1, 0); spots(1) = 19");
            says("p18 18 1 9;p18 17 1 9;p17 18 1 9;", "spots(1) = 341; sees(2, 0); spots(1) = 359; sees(1, 0); spots(1) = 360");
            // (0, 9) is before (1, -9)
            says("p10 0 1 1;p9 18 1 1;p10 1 1 1;", "spots(0) = 3; spots(1) = 189");
            says("p0 0 1 9;p0 18 1 9;p18 0 1 9;", "spots(0) = 190; spots(1) = 0");
            says(WIDE, "spots(0) = 361; spots(1) = 0");
        });
        Sentences.sentence(29, "if only the load h stood there (no other loads, no wind)", () ->
            says(SQUARE + "c18 18 99;c18 18 99;w198 198;", "sharing(1) = 0; spots(0) = 49; spots(1) = 120; sees(3, 10); spots(0) = 1;"
                    + "spots(1) = 240; hunts(5); sees(3, 5); spots(0) = 1; hunts(5); sees(3, 10); spots(0) = 0"));
    }

    private static void spotsTrue() {
        Sentences.sentence(29, "the distribution to all intact piles would be settled", () -> {
            // the places of the square, and of what is left of it
            says(SQUARE, "spots(0) = 49; loses(0); spots(0) = 28; mends(0); spots(0) = 49; loses(1); loses(2); spots(0) = 0");
            // at some places among the piles the rounds never end, as at (-4, 3)
            says(ENDLESS + "c5 12 10;", "sharing(0) = 40; spots(0) = 92; spots(1) = 69; drives(-4, -9, 1, 1) = 6; sharing(1) = 1");
        });
        Sentences.sentence(29, "all observations would be true in it", () ->
            says(SQUARE, "sees(1, 10); spots(0) = 1; spots(1) = 234; sees(3, 0); spots(0) = 1; sees(3, 1); spots(0) = 0;"
                    + "forget(); spots(0) = 49; hunts(40); sees(0, 10); sees(1, 10); sees(2, 10); sees(3, 10); spots(0) = 1;"
                    + "spots(1) = 180"));
        Sentences.sentence(29, "by the present piles", () ->
            // what was seen of a pile is asked of the one that has its number now
            says(CORNER, "keep(0); sees(0, 10); spots(1) = 0; drives(9, 9, 1, 1); loses(0); spots(0) = 0; mends(0); spots(1) = 0;"
                    + "back(0); spots(0) = 1; spots(1) = 0"));
        Sentences.sentence(29, "the share of a pile that does not exist any more is 0", () -> {
            says(SQUARE, "drives(9, 9, 1, 1) = 4; sees(4, 10); spots(0) = 1; spots(1) = 360; undo(); spots(0) = 0; spots(1) = NONE;"
                    + "forget(); drives(9, 9, 1, 1) = 4; sees(4, 0); undo(); count(0) = 4; spots(0) = 49; count(4) = 1");
            says(SQUARE, "keep(0); drives(9, 9, 1, 1) = 4; sees(4, 0); back(0); count(0) = 4; spots(0) = 49;"
                    + "drives(9, 0, 1, 1) = 4; sees(4, 1); back(0); spots(0) = 0");
            // also if it was the eighth one
            says(SQUARE, "drives(9, 9, 1, 1); drives(9, 8, 1, 1); drives(9, 7, 1, 1); drives(9, 6, 1, 1) = 7; sees(7, 0); undo();"
                    + "undo(); undo(); undo(); spots(0) = 49");
        });
    }

    private static void ask() {
        Sentences.sentence(30, "the pile whose largest group is smallest is taken", () -> {
            // 11 spots: one of them is pile 0, and the other two piles tell all but two of them apart
            says("p9 10 1 9;p9 9 1 9;p18 9 1 9;", "hunts(99); spots(0) = 11; ask() = 1");
            says(SQUARE, "sees(0, 0); ask() = 3");
            // of all places, by 8 piles
            says(WIDE, "count(0) = 8; ask() = 5; hunts(99); ask() = 5; loses(5); ask() = 0");
        });
        Sentences.sentence(30, "of several the one with the lowest number", () -> {
            says(SQUARE, "ask() = 0; loses(0); ask() = 1");
            says(CORNER, "ask() = 0");
            // nothing is told by any pile
            says(SQUARE, "hunts(1); sees(0, 0); sees(1, 0); sees(2, 0); sees(3, 0); spots(0) = 45; ask() = 0; loses(0); ask() = 1;"
                    + "loses(1); ask() = NONE");
        });
        Sentences.sentence(30, "For each intact pile, the spots are grouped by its share, rounded down", () -> {
            // a lost pile would have one group, and so would be no better
            says(SQUARE, "loses(0); ask() = 1; mends(0); loses(1); ask() = 0");
            // a share of 99 is a group too
            says(CORNER, "hunts(99); ask() = 0; sees(0, 0); spots(0) = 2; ask() = 1");
        });
    }

    private static void askNone() {
        Sentences.sentence(30, "NONE if there is at most one spot", () -> {
            says(CORNER, "spots(0) = 3; ask() = 0; sees(2, 0); spots(0) = 2; ask() = 0; sees(1, 0); spots(0) = 1; ask() = NONE;"
                    + "sees(0, 0); spots(0) = 0; ask() = NONE; forget(); ask() = 0");
            says("p8 9 1 1;p9 9 1 1;p10 9 1 1;", "spots(0) = 0; ask() = NONE");
            // the first two and the last two places of all
            says("p18 18 1 9;p18 17 1 9;p17 18 1 9;", "sees(2, 0); spots(0) = 2; ask() = 0; sees(1, 0); ask() = NONE");
        });
        Sentences.sentence(30, "or no pile is intact", () -> {
            Sentences.says(new PileShares(), "ask() = NONE");
            says(SQUARE, "loses(0); loses(1); loses(2); loses(3); ask() = NONE; sees(0, 0); ask() = NONE");
        });
    }
}
