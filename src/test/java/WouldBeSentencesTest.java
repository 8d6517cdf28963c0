/** The sentences about what would be that name a boundary: the promises 20 to 25. */
public final class WouldBeSentencesTest {
    /** Piles at (-3, -3), (3, -3), (-3, 3) and (3, 3). */
    private static final String SQUARE = "p6 6 1 10;p12 6 1 10;p6 12 1 10;p12 12 1 10;";
    private static final String EIGHT = "p0 0 1 9;p1 0 1 9;p2 0 1 9;p3 0 1 9;p4 0 1 9;p5 0 1 9;p6 0 1 9;p7 7 1 9;";
    private static final String ENDLESS = "p14 18 3 10;p10 13 3 10;p6 12 3 10;p3 12 1 10;p15 2 2 10;p10 11 2 10;c5 12 9;";

    private WouldBeSentencesTest() { }

    public static void main(String[] args) {
        kern();
        kerns();
        without();
        key();
        extra();
        extraNone();
        odds();
        oddsStanding();
        Sentences.end();
    }

    private static void says(String text, String rows) {
        Sentences.says(Sentences.cap(text), rows);
    }

    private static void kern() {
        Sentences.sentence(20, "BAD if there is no such place.", () -> {
            String rows = "kern(-10, 0) = BAD; kern(10, 0) = BAD; kern(0, -10) = BAD; kern(0, 10) = BAD; kern(LOW, 0) = BAD;"
                    + "kern(HIGH, 0) = BAD; kern(0, LOW) = BAD; kern(0, HIGH) = BAD";
            says(SQUARE, rows + "; kern(-9, -9) = 0; kern(9, 9) = 0; kern(-9, 9) = 0; kern(9, -9) = 0");
            says("", rows + "; kern(-9, -9) = NONE; kern(9, 9) = NONE");
        });
        Sentences.sentence(20, "NONE if the set of all intact piles is unstable", () -> {
            says("", "kern(0, 0) = NONE");
            says("p9 9 1 1;p10 9 1 1;", "kern(0, 0) = NONE");
            says("p8 9 1 1;p9 9 1 1;p10 9 1 1;", "kern(0, 0) = NONE");
            says(SQUARE, "kern(0, 0) = 1; loses(0); kern(0, 0) = 1; loses(1); kern(0, 0) = NONE; mends(0); kern(0, 0) = 1");
        });
        Sentences.sentence(20, "no share would be negative", () ->
            // at (3, 0) and (1, 2) two and one of the shares are 0
            says(SQUARE, "kern(3, 0) = 1; kern(4, 0) = 0; kern(-3, 0) = 1; kern(-4, 0) = 0; kern(0, 3) = 1; kern(0, 4) = 0;"
                    + "kern(0, -3) = 1; kern(0, -4) = 0; kern(1, 2) = 1; kern(2, 2) = 0; kern(-2, -1) = 1; kern(-2, -2) = 0;"
                    + "kern(3, 1) = 0; kern(2, -1) = 1"));
        Sentences.sentence(20, "if only a load of 1 stood there (no other loads, no wind)", () -> {
            says(SQUARE + "c18 18 99;c18 18 99;w198 198;", "kern(0, 0) = 1; kern(3, 0) = 1; kern(4, 0) = 0; kern(9, 9) = 0");
            says(SQUARE + "w0 0;", "kern(0, 0) = 1; kern(-3, 0) = 1; kern(-4, 0) = 0");
        });
        Sentences.sentence(20, "all intact piles were active (without rounds)", () -> {
            // with rounds, a load at (2, 2) releases a pile and is settled
            says(SQUARE + "c11 11 1;", "sharing(1) = 1; sharing(2) = 1; kern(2, 2) = 0; loses(0); kern(2, 2) = 1");
            // with rounds, a load at (-4, 3) is never settled
            says(ENDLESS, "sharing(0) = 40; kern(-4, 3) = 0; kern(1, 1) = 1");
        });
    }

    private static void kerns() {
        Sentences.sentence(21, "BAD if what is not 0 or 1.", () -> {
            says(SQUARE, "kerns(0) = 25; kerns(-1) = BAD; kerns(2) = BAD; kerns(LOW) = BAD; kerns(HIGH) = BAD");
            says("", "kerns(-1) = BAD; kerns(2) = BAD");
        });
        Sentences.sentence(21, "NONE if the set of all intact piles is unstable", () -> {
            says("", "kerns(0) = NONE; kerns(1) = NONE");
            says("p8 9 1 1;p9 9 1 1;p10 9 1 1;", "kerns(0) = NONE; kerns(1) = NONE");
            says(SQUARE, "loses(0); kerns(0) = 28; loses(1); kerns(0) = NONE; kerns(1) = NONE");
        });
        Sentences.sentence(21, "(NONE if it has no places)", () ->
            // it is between the places
            says("p9 9 9 9;p10 9 9 9;p9 10 9 9;p10 10 9 9;", "kern(0, 0) = 0; kerns(0) = 0; kerns(1) = NONE"));
        Sentences.sentence(21, "1 for the first one, by x and then by y, as one number", () -> {
            says(SQUARE, "kerns(1) = 123");
            says("p0 0 1 9;p0 18 1 9;p18 0 1 9;", "kerns(0) = 190; kerns(1) = 0");
            says("p18 18 1 9;p0 18 1 9;p18 0 1 9;", "kerns(0) = 190; kerns(1) = 18");
            says("p18 18 1 9;p18 17 1 9;p17 18 1 9;", "kerns(0) = 3; kerns(1) = 341");
            // (0, 9) is before (1, -9)
            says("p10 0 1 1;p9 18 1 1;p10 1 1 1;", "kerns(0) = 3; kerns(1) = 189");
        });
    }

    private static void without() {
        Sentences.sentence(22, "BAD if there is no such pile, or what is not 0 to 2", () -> {
            says("", "without(0, 0) = BAD");
            String rows = "without(4, 0) = BAD; without(-1, 0) = BAD; without(8, 0) = BAD; without(LOW, 0) = BAD;"
                    + "without(HIGH, 0) = BAD; without(0, -1) = BAD; without(0, 3) = BAD; without(0, LOW) = BAD;"
                    + "without(0, HIGH) = BAD; without(32, 0) = BAD";
            says(SQUARE + "c9 9 40;", rows + "; without(0, 0) = 2; without(3, 1) = 1; without(3, 2) = 1");
            // before STATE, and before NONE
            says(SQUARE, "loses(0); loses(1); loses(2);" + rows + "; without(3, 3) = BAD; without(3, -1) = BAD; without(3, 0) = NONE");
        });
        Sentences.sentence(22, "STATE if it is lost.", () -> {
            says(SQUARE, "loses(0); without(0, 0) = STATE; without(0, 1) = STATE; without(0, 2) = STATE; mends(0); without(0, 0) = 0");
            // also where the others fail
            says(SQUARE, "loses(0); loses(1); without(0, 0) = STATE; without(2, 0) = NONE; loses(2); loses(3);"
                    + "without(3, 2) = STATE");
        });
        Sentences.sentence(22, "NONE if the distribution to the other intact piles fails (also if there are none)", () -> {
            says(SQUARE + "c10 10 40;", "without(3, 0) = NONE; without(3, 1) = NONE; without(3, 2) = NONE; without(0, 0) = 4");
            says("p9 9 1 1;p10 9 1 1;p9 10 1 1;", "without(0, 0) = NONE; without(1, 1) = NONE; without(2, 2) = NONE");
            says("p9 9 1 1;", "without(0, 0) = NONE; without(0, 1) = NONE; without(0, 2) = NONE");
            says(SQUARE, "loses(0); loses(1); loses(3); without(2, 0) = NONE");
            says(ENDLESS, "drives(-5, 3, 9, 10); without(6, 0) = NONE; without(6, 1) = NONE; without(6, 2) = NONE");
        });
        Sentences.sentence(22, "Returns the greatest use that there would be if an intact pile were lost.", () -> {
            says(SQUARE, "without(0, 0) = 0; without(0, 1) = 1; without(0, 2) = 1; without(1, 2) = 0; count(1) = 4; count(6) = 0");
            // a pile that is lost stays so
            says(SQUARE + "p9 9 1 10;c9 9 40;", "loses(4); without(0, 0) = 2; without(0, 2) = 1");
        });
    }

    private static void key() {
        Sentences.sentence(23, "NONE if no pile is intact.", () -> {
            says("", "key() = NONE");
            says(SQUARE, "loses(0); loses(1); loses(2); key() = 3; loses(3); key() = NONE");
            says("p9 9 1 1;", "key() = 0; loses(0); key() = NONE");
        });
        Sentences.sentence(23, "where a failing distribution counts as greater than any use", () -> {
            // without pile 0 the use is 4/3, without pile 1 and 2 it is 8/3; without pile 3 it fails
            says(SQUARE + "c10 10 40;", "without(2, 0) = 8; without(3, 0) = NONE; key() = 3");
            says("p6 6 1 99;p12 6 1 1;p6 12 1 1;p12 12 1 1;c10 10 99;", "without(0, 0) = 33; without(3, 0) = NONE; key() = 3");
            says(ENDLESS, "loads(0, 0); without(0, 0) = 0; key() = 0; loads(0, 9); without(3, 0) = NONE; key() = 3");
        });
        Sentences.sentence(23, "of several the one with the lowest number", () -> {
            says(SQUARE, "key() = 0; loses(0); key() = 1; loses(1); key() = 2");
            says(SQUARE + "c9 9 40;", "key() = 0");
            says(SQUARE + "c12 12 40;", "without(3, 0) = NONE; without(0, 0) = 4; key() = 3; moves(0, 3, 0); without(1, 0) = NONE;"
                    + "key() = 1; moves(0, -3, 0); key() = 0; moves(0, 0, 3); key() = 2; moves(0, 9, 9); key() = 0");
        });
        Sentences.sentence(23, "the intact pile for which the greatest use would be greatest if it were lost", () -> {
            // without 0 or 3 the other two of a diagonal carry all: the weaker ones of the two pairs decide
            says("p6 6 1 10;p12 6 1 9;p6 12 1 9;p12 12 1 10;c9 9 40;", "key() = 0");
            says("p6 6 1 9;p12 6 1 10;p6 12 1 10;p12 12 1 9;c9 9 40;", "key() = 1");
            says("p6 6 1 98;p12 6 1 99;p6 12 1 99;p12 12 1 98;c9 9 40;", "key() = 1; loses(1); key() = 0");
            // uses that differ little: fractions with small rests, and whole ones
            says("p10 10 1 1;p9 10 1 14;p11 10 1 17;p11 9 1 7;p9 9 1 19;c10 10 16;", "key() = 1");
            says("p11 9 1 12;p9 9 1 18;p9 11 1 19;p10 10 1 6;p11 10 1 3;c10 10 3;", "key() = 2");
            says("p9 9 1 4;p9 10 1 4;p10 9 1 4;p9 11 1 1;p11 11 1 4;c9 10 1;", "key() = 1");
            says("p10 10 1 6;p9 10 1 5;p11 10 1 4;p11 9 1 2;p11 11 1 18;c10 10 6;c11 10 9;", "key() = 2");
        });
    }

    private static void extra() {
        Sentences.sentence(24, "BAD if an argument is out of range.", () -> {
            String rows = "extra(0, 1) = BAD; extra(10, 1) = BAD; extra(1, 0) = BAD; extra(1, 100) = BAD; extra(-1, 1) = BAD;"
                    + "extra(1, -1) = BAD; extra(LOW, 1) = BAD; extra(HIGH, 1) = BAD; extra(1, LOW) = BAD; extra(1, HIGH) = BAD";
            says(SQUARE + "c9 9 40;", rows + "; extra(1, 1) = 0; extra(9, 99) = 180; extra(1, 99) = 180; extra(9, 1) = 0");
            says("", rows + "; extra(1, 1) = NONE; extra(9, 99) = NONE");
        });
        Sentences.sentence(24, "of all places without a pile (also without a lost one)", () -> {
            String two = "p6 9 1 99;p12 9 1 99;c9 9 10;";
            // a further pile carries nothing here, wherever it is
            says(two, "extra(1, 1) = 0; drives(-9, -9, 1, 1) = 2; loses(2); extra(1, 1) = 1; drives(-9, -8, 1, 1) = 3; loses(3);"
                    + "extra(1, 1) = 2; undo(); undo(); undo(); extra(1, 1) = 1");
            says(SQUARE + "c9 9 40;", "extra(9, 99) = 180; drives(0, 0, 1, 1); loses(4); extra(9, 99) = 161");
        });
        Sentences.sentence(24, "of several the first one, by x and then by y", () -> {
            says("p6 9 1 99;p12 9 1 99;c9 9 10;", "extra(1, 1) = 0; extra(9, 99) = 0");
            says(SQUARE, "extra(5, 5) = 0; drives(-9, -9, 1, 1); extra(5, 5) = 1");
            says("p0 0 1 1;p0 1 1 1;p0 2 1 1;p0 3 1 1;", "extra(5, 5) = 19; drives(-8, -9, 1, 1); extra(5, 5) = 4");
            // the last place of all
            says("p18 17 1 9;p17 18 1 9;c18 18 2;", "extra(1, 9) = 360");
        });
        Sentences.sentence(24, "The further pile is possible also if there are 8 piles", () ->
            says(EIGHT + "c12 12 40;", "count(0) = 8; extra(1, 99) = 240; count(0) = 8; count(6) = 0; drives(3, 3, 1, 99) = FULL"));
        Sentences.sentence(24, "it has a higher number than all others", () ->
            // at (-3, 3) it has the smallest share together with another pile, and it fails if the further one is released
            says("p12 12 1 90;p12 6 2 15;p8 11 2 2;p9 11 1 1;p6 10 2 8;c11 12 12;", "extra(2, 10) = 126"));
    }

    private static void extraNone() {
        Sentences.sentence(24, "NONE if there is none", () -> {
            says("", "extra(1, 1) = NONE");
            says("p9 9 1 1;", "extra(9, 99) = NONE");
            // the load is outside of what any further pile makes
            says("p9 9 1 1;c9 12 10;w100 99;", "extra(9, 99) = NONE");
            says("p18 18 1 9;p17 18 1 9;c18 9 2;w100 99;", "extra(1, 9) = NONE");
            says("p9 9 1 1;p10 9 1 1;p9 10 1 1;w100 99;", "extra(9, 99) = NONE");
            says(SQUARE, "loses(0); loses(1); loses(2); extra(9, 99) = NONE; mends(0); extra(9, 99) = 1");
        });
        Sentences.sentence(24, "the distribution to all intact piles is settled and its greatest use is smallest", () -> {
            // under the load it takes the most off the others; a weak one is best far off
            says(SQUARE + "c9 9 40;", "extra(4, 99) = 180; extra(4, 1) = 0");
            // uses that differ little: fractions with small rests, and whole ones
            says("p9 9 1 1;p9 10 1 3;p10 10 1 1;c9 9 10;c10 9 6;", "extra(1, 5) = 192");
            says("p10 9 1 1;p10 10 1 9;p9 9 1 8;c9 9 17;c10 10 9;c10 10 24;c10 9 10;", "extra(1, 15) = 219");
            says("p9 10 1 6;p10 9 1 4;p10 10 1 9;c9 10 7;c9 10 3;", "extra(1, 10) = 125");
            says("p9 10 1 1;p9 9 1 1;p10 10 1 1;c9 10 5;c9 10 11;c10 9 14;c9 9 5;", "extra(1, 1) = 199");
            // at (1, 3) it would not be settled in 40 rounds
            says(ENDLESS, "drives(1, 3, 9, 10) = 6; sharing(0) = 40; undo(); drives(-5, 3, 9, 10) = 6; sharing(0) = 2");
        });
    }

    private static void isOdds(String text, int x, int top, int bottom) {
        says(text, "odds(" + x + ", 0) = " + top + "; odds(" + x + ", 1) = " + bottom);
    }

    private static void odds() {
        Sentences.sentence(25, "BAD if an argument is out of range.", () -> {
            String rows = "odds(-1, 0) = BAD; odds(11, 0) = BAD; odds(0, -1) = BAD; odds(0, 2) = BAD; odds(LOW, 0) = BAD;"
                    + "odds(HIGH, 0) = BAD; odds(0, LOW) = BAD; odds(0, HIGH) = BAD";
            says(SQUARE, rows + "; odds(0, 0) = 1; odds(0, 1) = 1; odds(10, 0) = 0; odds(10, 1) = 1");
            says("", rows + "; odds(0, 0) = 0; odds(0, 1) = 1; odds(10, 0) = 0; odds(10, 1) = 1");
        });
        Sentences.sentence(25, "`x`: 0 to 10", () -> {
            isOdds(SQUARE, 0, 1, 1);
            isOdds(SQUARE, 1, 9477, 10000);
            isOdds(SQUARE, 9, 37, 10000);
            isOdds(SQUARE, 10, 0, 1);
        });
        Sentences.sentence(25, "(Without intact piles it fails.)", () -> {
            isOdds("", 0, 0, 1);
            isOdds("", 10, 0, 1);
            says(SQUARE, "loses(0); loses(1); loses(2); loses(3); odds(0, 0) = 0; odds(0, 1) = 1; odds(5, 0) = 0; odds(5, 1) = 1;"
                    + "odds(10, 0) = 0");
            isOdds(SQUARE + "c9 9 1;", 10, 0, 1);
        });
        Sentences.sentence(25, "if each intact pile is lost with the probability x / 10, independently of the others", () -> {
            // a lost pile is not lost again
            says(SQUARE, "loses(0); odds(5, 0) = 1; odds(5, 1) = 8; odds(0, 0) = 1; odds(1, 0) = 729; odds(1, 1) = 1000;"
                    + "loses(1); odds(0, 0) = 0; odds(0, 1) = 1");
            // of 8 piles, 7 of which are in a line: the one beside it and two of the line must remain
            isOdds(EIGHT, 5, 15, 32);
            isOdds(EIGHT, 9, 93559, 6250000);
            isOdds(EIGHT, 0, 1, 1);
        });
    }

    private static void oddsStanding() {
        Sentences.sentence(25, "the distribution to those that remain is settled and its greatest use is at most 1", () -> {
            // 10 of 10 for each pile, and a 41st that is too much; 20 of 10 where one is lost
            isOdds(SQUARE + "c9 9 40;", 0, 1, 1);
            isOdds(SQUARE + "c9 9 40;", 1, 6561, 10000);
            isOdds(SQUARE + "c9 9 41;", 0, 0, 1);
            isOdds(SQUARE + "c9 9 41;", 1, 0, 1);
            isOdds(SQUARE + "c9 9 20;", 1, 9477, 10000);
            isOdds(SQUARE + "c9 9 21;", 1, 6561, 10000);
            isOdds(SQUARE + "c18 18 1;", 1, 0, 1);
            isOdds(ENDLESS, 0, 0, 1);
            isOdds(ENDLESS, 1, 366687, 1000000);
        });
    }
}
