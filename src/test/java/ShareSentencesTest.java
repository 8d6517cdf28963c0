/** The sentences about what stands and what the piles carry that name a boundary: the description, promises 12 to 19. */
public final class ShareSentencesTest {
    /** Piles at (-3, -3), (3, -3), (-3, 3) and (3, 3). */
    private static final String SQUARE = "p6 6 1 10;p12 6 1 10;p6 12 1 10;p12 12 1 10;";
    private static final String TRIANGLE = "p9 9 1 10;p10 9 1 10;p9 10 1 10;";
    private static final String IN_LINE = "p0 9 1 50;p9 9 2 50;p18 9 1 50;c9 9 30;";
    /** The load is on a pile's neighbour and among the piles, but the rounds never end. */
    private static final String ENDLESS = "p14 18 3 10;p10 13 3 10;p6 12 3 10;p3 12 1 10;p15 2 2 10;p10 11 2 10;c5 12 9;";

    private ShareSentencesTest() { }

    public static void main(String[] args) {
        places();
        pilesAndColumns();
        unstable();
        releases();
        regains();
        endless();
        sharesAndUses();
        fractions();
        pile();
        column();
        sum();
        sharing();
        share();
        press();
        most();
        factor();
        Sentences.end();
    }

    private static void in(String words, Runnable test) {
        Sentences.sentence(Sentences.DESCRIPTION, words, test);
    }

    private static void says(String text, String rows) {
        Sentences.says(Sentences.cap(text), rows);
    }

    private static void places() {
        in("A place has integer coordinates x and y from -9 to 9.", () -> {
            for (String place : new String[] {"-9, -9", "-9, 9", "9, -9", "9, 9"}) {
                says(TRIANGLE + "c9 9 3;", "press(" + place + ", 1) = 1; kern(" + place + ") = 0;"
                        + "moves(0, " + place + ") = 1; drives(" + place + ", 1, 1) = 3");
            }
            for (String place : new String[] {"-10, 0", "10, 0", "0, -10", "0, 10", "LOW, 0", "0, LOW", "HIGH, 0", "0, HIGH"}) {
                says(TRIANGLE + "c9 9 3;", "press(" + place + ", 1) = NO; kern(" + place + ") = BAD;"
                        + "moves(0, " + place + ") = BAD; drives(" + place + ", 1, 1) = BAD");
            }
        });
        in("Where a place is given as one number, this is 19 * (x + 9) + (y + 9).", () -> {
            for (int x = -9; x <= 9; x++) {
                for (int y = -9; y <= 9; y++) {
                    PileShares cap = new PileShares();
                    cap.drives(x, y, 1, 1);
                    cap.drives(x == 9 ? 8 : x + 1, y, 1, 1);
                    cap.drives(x, y == 9 ? 8 : y + 1, 1, 1);
                    // all of the unknown load is on the first pile
                    cap.sees(0, 10);
                    Sentences.says(cap, "spots(0) = 1; spots(1) = " + (19 * (x + 9) + (y + 9)));
                }
            }
            says("p0 0 1 1;p0 1 1 1;p1 0 1 1;", "kerns(1) = 0");
            says("p0 18 1 1;p1 18 1 1;p1 17 1 1;", "kerns(1) = 18");
            says("p1 0 1 1;p2 0 1 1;p1 1 1 1;", "kerns(1) = 19");
            says("p18 18 1 1;p18 17 1 1;p17 18 1 1;", "kerns(1) = 341");
            says("p18 17 1 9;p17 18 1 9;c18 18 2;", "extra(1, 9) = 360");
        });
    }

    private static void pilesAndColumns() {
        in("There are at most 8 piles, numbered from 0", () -> {
            PileShares cap = new PileShares();
            for (int p = 0; p < 8; p++) {
                Sentences.says(cap, "pile(" + p + ", 0) = NO; drives(0, " + p + ", 1, 1) = " + p + "; pile(" + p + ", 1) = " + p);
            }
            Sentences.says(cap, "drives(0, 8, 1, 1) = FULL; pile(8, 0) = NO; pile(-1, 0) = NO; count(0) = 8");
        });
        in("each at a place where no other pile is", () ->
            says("p9 9 1 1;", "drives(0, 0, 1, 1) = STATE; drives(1, 0, 1, 1) = 1; drives(0, 1, 1, 1) = 2; count(0) = 3"));
        in("with a stiffness from 1 to 9 and a capacity from 1 to 99", () ->
            says("", "drives(0, 0, 0, 1) = BAD; drives(0, 0, 10, 1) = BAD; drives(0, 0, 1, 0) = BAD; drives(0, 0, 1, 100) = BAD;"
                    + "drives(0, 0, 1, 1) = 0; drives(0, 1, 9, 1) = 1; drives(0, 2, 1, 99) = 2; drives(0, 3, 9, 99) = 3;"
                    + "extra(0, 1) = BAD; extra(10, 1) = BAD; extra(1, 0) = BAD; extra(1, 100) = BAD; count(0) = 4"));
        in("There are at most 5 columns, numbered from 0", () -> {
            PileShares cap = Sentences.cap("c0 0 1;c0 0 2;c0 0 3;c0 0 4;c0 0 5;");
            for (int c = 0; c < 5; c++) {
                Sentences.says(cap, "column(" + c + ", 2) = " + (c + 1));
            }
            Sentences.says(cap, "column(5, 2) = NO; column(-1, 2) = NO; count(2) = 5");
        });
        in("with a load from 0 to 99", () ->
            says("c0 0 0;c0 0 99;", "column(0, 2) = 0; column(1, 2) = 99; loads(0, 99) = 0; loads(1, 0) = 99;"
                    + "loads(0, 100) = BAD; loads(0, -1) = BAD"));
        in("MX, MY, each from -99 to 99; it is 0, 0 at first", () ->
            says("", "sum(3) = 0; sum(4) = 0; winds(-99, 99) = 1; winds(99, -99) = 1; winds(-100, 0) = BAD;"
                    + "winds(100, 0) = BAD; winds(0, -100) = BAD; winds(0, 100) = BAD; sum(3) = 99; sum(4) = -99"));
    }

    private static void unstable() {
        in("If there is not exactly one such a, b, c, the set is unstable.", () -> {
            String fails = "sharing(0) = 1; sharing(1) = 0; kern(0, 0) = NONE; kerns(0) = NONE";
            says("", fails);
            says("p9 9 9 99;c9 9 5;", fails);
            says("p9 9 9 99;p10 10 9 99;", fails);
            says("p9 9 9 99;p10 10 9 99;c9 9 5;", fails);
            // three and eight in a line: along x, along y, aslant
            says("p8 9 1 9;p9 9 2 9;p10 9 3 9;c9 9 5;", fails);
            says("p9 0 1 9;p9 1 2 9;p9 18 3 9;c9 9 5;", fails);
            says("p0 2 1 9;p6 5 9 9;p18 11 3 9;c6 5 5;", fails);
            says("p0 18 9 9;p1 17 9 9;p2 16 9 9;p3 15 9 9;p4 14 9 9;p5 13 9 9;p6 12 9 9;p18 0 9 9;c9 9 99;", fails);
            // a lost pile does not hold the others
            PileShares cap = Sentences.cap(TRIANGLE);
            Sentences.says(cap, "sharing(1) = 1; loses(1)");
            Sentences.says(cap, fails);
            // the flattest triangle of all, and the smallest one
            says("p0 0 1 9;p18 17 1 9;p17 16 1 9;c18 17 5;", "sharing(1) = 1; share(1, 0) = 5");
            says(TRIANGLE, "sharing(1) = 1; kern(0, 0) = 1");
            says("p0 0 9 9;p18 18 9 9;p0 18 9 9;p18 0 9 9;p9 9 9 9;p0 9 9 9;p9 0 9 9;p18 9 9 9;c9 9 99;",
                    "sharing(1) = 1; kern(0, 0) = 1");
        });
        in("1. If the set of active piles is unstable, the distribution fails.", () -> {
            // the load is outside: piles are released until two are left
            says(SQUARE + "c13 9 40;", "sharing(0) = 3; sharing(1) = 0");
            says(TRIANGLE + "c8 9 1;", "sharing(0) = 2; sharing(1) = 0");
        });
    }

    private static void releases() {
        in("2. Otherwise, if the share of some active pile is negative", () -> {
            // two shares are 0: that is not negative
            says(SQUARE + "c12 9 40;", "sharing(0) = 1; sharing(1) = 1; sharing(2) = 0; share(0, 0) = 0; pile(0, 5) = 1");
            says(SQUARE + "c9 9 0;", "sharing(0) = 1; sharing(2) = 0; pile(3, 5) = 1");
            // a third more to the side, and they are
            says(SQUARE + "c12 9 3;w100 99;", "sharing(1) = 0; sharing(0) = 3");
            says(SQUARE + "c9 9 99;w198 198;c9 9 99;", "sharing(0) = 1; sharing(2) = 0");
            says(SQUARE + "c9 9 65;w198 198;", "sharing(0) = 2; sharing(2) = 1");
            says(SQUARE + "c9 9 66;w198 198;", "sharing(0) = 1; sharing(2) = 0; share(0, 0) = 0");
        });
        in("the one with the smallest share is released", () ->
            // of the shares that are negative the one of the stiff pile is smaller, though its pressure is not
            says("p9 10 1 9;p8 9 3 9;p9 9 2 9;p10 8 1 9;c9 10 5;", "sharing(0) = 2; sharing(1) = 1; sharing(2) = 2"));
        in("of several the one with the lowest number (it is not active any more)", () -> {
            // the same piles in another order: another pile is released, and two are left
            says("p12 12 1 9;p12 6 2 9;p8 11 2 9;p9 11 1 9;p6 10 2 9;p6 12 2 9;c11 12 6;",
                    "sharing(0) = 4; sharing(1) = 1; share(0, 0) = 5; share(5, 0) = 1");
            says("p6 12 2 9;p12 12 1 9;p12 6 2 9;p8 11 2 9;p9 11 1 9;p6 10 2 9;c11 12 6;", "sharing(0) = 5; sharing(1) = 0");
            says("p9 9 2 9;p9 8 1 9;p8 9 3 9;p10 10 1 9;c10 10 7;", "sharing(0) = 2; sharing(2) = 2; pile(1, 5) = 0");
        });
    }

    private static void regains() {
        in("3. Otherwise, if the pressure at the place of some released pile is above 0", () -> {
            // the pressure is x + y there, 5 times: it is 0 at the released pile 1
            says("p7 8 1 9;p10 8 1 9;p9 9 1 9;p8 11 1 9;p8 10 1 9;c8 11 5;",
                    "sharing(0) = 3; sharing(1) = 1; sharing(2) = 3; press(1, -1, 0) = 0; press(-1, 2, 0) = 5; pile(1, 5) = 0");
            says("p6 7 1 9;p13 7 2 9;p13 5 3 9;p13 13 2 9;p5 6 1 9;p11 9 2 9;p13 11 1 9;c13 6 2;",
                    "sharing(0) = 5; sharing(2) = 17");
            // of all fractions with the denominator of that round, the least one above 0
            says("p7 10 1 9;p9 8 1 9;p12 9 1 9;p11 9 1 9;p8 7 1 9;c12 9 1;", "sharing(0) = 5; sharing(2) = 3");
        });
        in("the one with the greatest pressure becomes active again", () ->
            says("p12 13 1 9;p5 12 5 9;p5 6 2 9;p5 13 1 9;p6 8 8 9;p11 11 6 9;p6 10 5 9;c5 12 11;",
                    "sharing(0) = 6; sharing(1) = 1; sharing(2) = 49"));
        in("becomes active again, of several the one with the lowest number", () -> {
            says("p2 5 1 9;p4 7 1 9;p15 7 1 9;p14 16 4 9;p16 18 1 9;p15 4 5 9;p12 12 4 9;c3 6 7;",
                    "sharing(0) = 7; sharing(1) = 1; sharing(2) = 116");
            says("p12 13 1 9;p7 13 1 9;p11 13 1 9;p8 9 3 9;p10 11 6 9;p10 12 6 9;c12 13 12;",
                    "sharing(0) = 8; sharing(1) = 1; sharing(2) = 42");
        });
    }

    private static void endless() {
        in("If it is not settled in 40 rounds, it fails.", () -> {
            says(ENDLESS, "sharing(0) = 40; sharing(1) = 0; sharing(2) = NONE; pile(2, 5) = NONE; share(2, 0) = NOT;"
                    + "press(-4, 3, 0) = NOT; most(0) = NONE; factor(0) = NONE; key() = 3; odds(0, 0) = 0; odds(0, 1) = 1");
            // a further pile beyond the load ends it, and without that one it fails
            PileShares cap = Sentences.cap(ENDLESS);
            Sentences.says(cap, "drives(-5, 3, 9, 10) = 6; sharing(0) = 2; sharing(1) = 1; without(6, 0) = NONE; without(6, 2) = NONE;"
                    + "loses(6); sharing(0) = 40");
            // a pile less ends it too
            Sentences.says(cap, "without(2, 0) = 9; without(2, 1) = 14; loses(2); sharing(1) = 1");
            // every sixth round all piles are active again, and pile 0 is the last of them to come back
            says("p6 13 9 9;p5 11 4 9;p0 18 5 9;p5 10 6 9;p15 18 1 9;p6 11 1 9;c9 12 10;w121 131;",
                    "sharing(0) = 40; sharing(1) = 0; sharing(2) = NONE; most(0) = NONE");
            says("p8 13 7 9;p10 13 1 9;p15 11 6 9;p4 18 7 9;p18 10 9 9;p4 1 4 9;c16 10 98;w139 156;",
                    "sharing(0) = 40; sharing(1) = 0; sharing(2) = NONE; most(0) = NONE");
        });
        in("4. Otherwise the distribution is settled, with the shares and pressures of this round.", () -> {
            // many rounds, but not too many
            says("p11 12 1 9;p17 17 7 9;p0 18 6 9;p10 13 9 9;p12 11 8 9;p13 9 7 9;p15 1 1 9;p18 18 1 9;c17 17 6;",
                    "sharing(0) = 24; sharing(1) = 1; sharing(2) = 100; share(1, 0) = 155379; share(1, 1) = 31051;"
                    + "most(2) = 1");
        });
    }

    private static void sharesAndUses() {
        in("The share of every other pile (released, lost, or not existing) is 0.", () -> {
            PileShares cap = Sentences.cap(SQUARE + "c11 11 40;");
            Sentences.says(cap, "pile(0, 5) = 0; share(0, 0) = 0; share(0, 1) = 1; share(0, 2) = 0");
            Sentences.says(cap, "loses(0); share(0, 0) = 0; share(0, 1) = 1; share(0, 2) = 0; drives(9, 9, 1, 1); sees(4, 0);"
                    + "undo(); count(0) = 4; spots(0) = 28; forget(); drives(9, 9, 1, 1); sees(4, 1); undo(); spots(0) = 0");
        });
        in("the most used pile is the one with this use, of several the one with the lowest number", () -> {
            says(SQUARE + "c9 9 40;", "most(2) = 0; loses(0); most(2) = 1; mends(0); most(2) = 0; moves(0, 1, 0); most(2) = 1;"
                    + "moves(0, 0, 1); most(2) = 2");
            // the same use of another share: 20 of 10, and 40 of 20
            says("p6 9 2 20;p12 6 1 10;p12 12 1 10;c9 9 80;", "share(0, 0) = 40; share(1, 0) = 20; most(0) = 2; most(2) = 0");
            says("p12 6 1 10;p6 9 2 20;p12 12 1 10;c9 9 80;", "share(1, 0) = 40; share(0, 0) = 20; most(0) = 2; most(2) = 0");
        });
        in("The greatest use of a settled distribution is the greatest one of the piles of its set", () -> {
            // no pile is used: all of the set have the use 0
            says(SQUARE, "most(0) = 0; most(1) = 1; most(2) = 0; loses(0); most(2) = 1; loses(1); most(2) = NONE");
            // the greatest use is not that of the greatest share
            says("p6 9 2 99;p12 6 1 7;p12 12 1 7;c9 9 40;", "most(0) = 10; most(1) = 7; most(2) = 1");
        });
    }

    private static void fractions() {
        in("Fractions are given in lowest terms with a positive denominator (0 is 0/1).", () -> {
            PileShares cap = Sentences.cap(SQUARE + "c11 11 40;");
            Sentences.says(cap, "press(-3, -3, 0) = -40; press(-3, -3, 1) = 3; press(-2, 0, 0) = 0; press(-2, 0, 1) = 1;"
                    + "share(0, 0) = 0; share(0, 1) = 1; share(3, 0) = 80; share(3, 1) = 3; most(0) = 8; most(1) = 3;"
                    + "factor(0) = 3; factor(1) = 8; odds(10, 0) = 0; odds(10, 1) = 1; loads(0, 9);"
                    + "share(3, 0) = 6; share(3, 1) = 1; most(0) = 3; most(1) = 5; odds(0, 0) = 1; odds(0, 1) = 1;"
                    + "odds(5, 0) = 1; odds(5, 1) = 4; loads(0, 0); most(0) = 0; most(1) = 1;"
                    + "without(0, 0) = 0; without(0, 1) = 1; press(9, 9, 0) = 0; press(9, 9, 1) = 1");
        });
        in("Sets of piles are bit masks: bit p stands for pile p.", () -> {
            says("p12 6 1 9;p6 12 1 9;p12 12 1 9;p6 6 1 9;c11 11 40;", "sharing(2) = 8");
            // the first and the last of 8 are released, and all but three
            says("p6 6 1 9;p12 6 1 9;p6 12 1 9;p12 12 1 9;p12 9 1 9;p9 12 1 9;p11 11 1 9;p5 5 1 9;c12 12 9;",
                    "sharing(1) = 1; share(3, 0) = 9");
        });
    }

    private static void pile() {
        Sentences.sentence(12, "NO if there is no such pile, or what is not 0 to 5.", () -> {
            says("", "pile(0, 0) = NO; pile(0, 5) = NO");
            says(SQUARE, "pile(3, 0) = 3; pile(4, 0) = NO; pile(-1, 0) = NO; pile(8, 5) = NO; pile(LOW, 0) = NO;"
                    + "pile(HIGH, 5) = NO; pile(0, 0) = -3; pile(0, 5) = 1; pile(0, -1) = NO; pile(0, 6) = NO;"
                    + "pile(0, LOW) = NO; pile(0, HIGH) = NO; pile(32, 4) = NO");
            // also where the distribution fails
            says(IN_LINE, "pile(0, 5) = NONE; pile(3, 5) = NO; pile(0, 6) = NO; pile(-1, 5) = NO");
        });
        Sentences.sentence(12, "4 for 1 if it is intact, otherwise 0", () ->
            says(SQUARE, "pile(1, 4) = 1; loses(1); pile(1, 4) = 0; pile(0, 4) = 1; mends(1); pile(1, 4) = 1"));
        Sentences.sentence(12, "5 for 1 if it is active at the end of the distribution to all intact piles, 0 if not (also if "
                + "it is lost)", () -> {
            says(SQUARE + "c11 11 40;", "pile(0, 5) = 0; pile(0, 4) = 1; pile(1, 5) = 1; loses(0); pile(0, 5) = 0; pile(0, 4) = 0");
            // a share of 0 may be an active pile's
            says(SQUARE + "c12 9 40;", "share(0, 0) = 0; pile(0, 5) = 1");
        });
        Sentences.sentence(12, "NONE if that fails (also for a lost pile)", () -> {
            says(SQUARE + "c18 18 1;", "pile(0, 5) = NONE; pile(3, 5) = NONE; loses(3); pile(3, 5) = NONE; pile(3, 4) = 0");
            says(SQUARE, "loses(0); loses(1); loses(2); loses(3); pile(0, 5) = NONE; pile(3, 5) = NONE");
            says(IN_LINE, "pile(1, 5) = NONE");
        });
    }

    private static void column() {
        Sentences.sentence(13, "NO if there is no such column, or what is not 0 to 2.", () -> {
            says("", "column(0, 0) = NO");
            says("c0 18 99;c10 8 0;", "column(0, 0) = -9; column(0, 1) = 9; column(0, 2) = 99; column(1, 0) = 1;"
                    + "column(1, 1) = -1; column(1, 2) = 0; column(2, 0) = NO; column(-1, 0) = NO; column(5, 0) = NO;"
                    + "column(0, -1) = NO; column(0, 3) = NO; column(LOW, 0) = NO; column(HIGH, 0) = NO;"
                    + "column(0, LOW) = NO; column(0, HIGH) = NO");
        });
    }

    private static void sum() {
        Sentences.sentence(14, "NO if what is not 0 to 4.", () ->
            says("c10 7 5;w105 106;", "sum(0) = 5; sum(1) = 11; sum(2) = -3; sum(3) = 6; sum(4) = 7; sum(-1) = NO; sum(5) = NO;"
                    + "sum(LOW) = NO; sum(HIGH) = NO"));
        in("Let W be the sum of all loads, U the sum of load * x over all columns, plus MX, and V the sum of load * y over all "
                + "columns, plus MY.", () -> {
            says("", "sum(0) = 0; sum(1) = 0; sum(2) = 0; winds(-99, 99); sum(0) = 0; sum(1) = -99; sum(2) = 99");
            says("c18 0 99;c18 0 99;c18 0 99;c18 0 99;c18 0 99;w198 0;", "sum(0) = 495; sum(1) = 4554; sum(2) = -4554");
            says("c0 18 99;c0 18 99;c0 18 99;c0 18 99;c0 18 99;w0 198;", "sum(0) = 495; sum(1) = -4554; sum(2) = 4554");
            says("c18 18 0;", "sum(0) = 0; sum(1) = 0; sum(2) = 0");
        });
    }

    private static void sharing() {
        Sentences.sentence(15, "BAD if what is not 0 to 2.", () -> {
            says(SQUARE, "sharing(0) = 1; sharing(1) = 1; sharing(2) = 0; sharing(-1) = BAD; sharing(3) = BAD;"
                    + "sharing(LOW) = BAD; sharing(HIGH) = BAD");
            says(IN_LINE, "sharing(-1) = BAD; sharing(3) = BAD");
        });
        Sentences.sentence(15, "0 for the number of its rounds, the last one included (also if it fails)", () -> {
            says("", "sharing(0) = 1");
            says(SQUARE + "c9 9 40;", "sharing(0) = 1");
            says(SQUARE + "c11 11 40;", "sharing(0) = 2");
            says(IN_LINE, "sharing(0) = 1; sharing(1) = 0");
            says(SQUARE + "c13 9 40;", "sharing(0) = 3; sharing(1) = 0");
            says(ENDLESS, "sharing(0) = 40; sharing(1) = 0");
        });
        Sentences.sentence(15, "1 for 1 if it is settled, otherwise 0", () -> {
            says(SQUARE, "sharing(1) = 1");
            says(SQUARE + "c18 9 1;", "sharing(1) = 0");
        });
        Sentences.sentence(15, "2 for the set of the piles that are released at the end (without lost ones; NONE if it fails)",
                () -> {
            says(SQUARE + "c9 9 40;", "sharing(2) = 0; loses(3); sharing(2) = 0");
            says(SQUARE + "c11 11 40;", "sharing(2) = 1; loses(0); sharing(2) = 0; loses(1); sharing(2) = NONE");
            says("p0 0 1 9;" + SQUARE + "c11 11 40;", "loses(0); sharing(2) = 2");
            says("", "sharing(2) = NONE");
            says(SQUARE + "c18 9 1;", "sharing(2) = NONE");
        });
    }

    private static void share() {
        Sentences.sentence(16, "NO if there is no such pile, or what is not 0 to 2.", () -> {
            says("", "share(0, 0) = NO");
            says(SQUARE + "c9 9 4;", "share(3, 2) = 1; share(4, 0) = NO; share(-1, 0) = NO; share(8, 0) = NO; share(0, -1) = NO;"
                    + "share(0, 3) = NO; share(LOW, 0) = NO; share(HIGH, 0) = NO; share(0, LOW) = NO; share(0, HIGH) = NO");
            says(IN_LINE, "share(0, 0) = NOT; share(3, 0) = NO; share(0, 3) = NO; share(-1, 2) = NO; share(0, -1) = NO");
        });
        Sentences.sentence(16, "NOT if the distribution fails", () -> {
            says(IN_LINE, "share(0, 0) = NOT; share(1, 1) = NOT; share(2, 2) = NOT");
            says(SQUARE + "c9 9 4;", "loses(0); loses(1); loses(2); share(3, 0) = NOT; share(0, 0) = NOT; loses(3);"
                    + "share(3, 0) = NOT; share(3, 1) = NOT; share(3, 2) = NOT");
        });
        Sentences.sentence(16, "2 for the share rounded down to an integer", () -> {
            // 3/4, 1 and 5/4 of a pile; 396/4 is whole
            says(SQUARE + "c9 9 3;", "share(0, 2) = 0; loads(0, 4); share(0, 2) = 1; loads(0, 5); share(0, 2) = 1;"
                    + "loads(0, 7); share(0, 2) = 1; loads(0, 8); share(0, 2) = 2; loads(0, 0); share(0, 2) = 0;"
                    + "loads(0, 99); share(0, 2) = 24");
        });
    }

    private static void press() {
        Sentences.sentence(17, "NO if there is no such place, or what is not 0 or 1.", () -> {
            says(SQUARE + "c9 9 4;", "press(-9, -9, 0) = 1; press(9, 9, 1) = 1; press(-10, 0, 0) = NO; press(10, 0, 0) = NO;"
                    + "press(0, -10, 0) = NO; press(0, 10, 0) = NO; press(0, 0, -1) = NO; press(0, 0, 2) = NO;"
                    + "press(LOW, 0, 0) = NO; press(0, HIGH, 0) = NO; press(0, 0, LOW) = NO; press(0, 0, HIGH) = NO");
            says("", "press(0, 0, 2) = NO; press(10, 0, 0) = NO; press(0, -10, 1) = NO");
        });
        Sentences.sentence(17, "NOT if the distribution fails", () -> {
            says("", "press(0, 0, 0) = NOT; press(0, 0, 1) = NOT");
            says(IN_LINE, "press(9, 9, 0) = NOT; press(-9, -9, 1) = NOT");
            says(SQUARE + "c13 9 4;", "press(0, 0, 0) = NOT");
        });
    }

    private static void most() {
        Sentences.sentence(18, "BAD if what is not 0 to 2.", () -> {
            says(SQUARE + "c9 9 4;", "most(0) = 1; most(1) = 10; most(2) = 0; most(-1) = BAD; most(3) = BAD; most(LOW) = BAD;"
                    + "most(HIGH) = BAD");
            says("", "most(-1) = BAD; most(3) = BAD");
        });
        Sentences.sentence(18, "NONE if the distribution fails (also if no pile is intact)", () -> {
            says("", "most(0) = NONE; most(1) = NONE; most(2) = NONE");
            says(IN_LINE, "most(0) = NONE; most(1) = NONE; most(2) = NONE");
            says(SQUARE, "loses(0); loses(1); loses(2); loses(3); most(0) = NONE; most(1) = NONE; most(2) = NONE");
        });
    }

    private static void factor() {
        Sentences.sentence(19, "BAD if what is not 0 or 1.", () -> {
            says(SQUARE + "c9 9 4;", "factor(0) = 10; factor(1) = 1; factor(-1) = BAD; factor(2) = BAD; factor(LOW) = BAD;"
                    + "factor(HIGH) = BAD");
            says(SQUARE, "factor(-1) = BAD; factor(2) = BAD");
            says("", "factor(-1) = BAD; factor(2) = BAD");
        });
        Sentences.sentence(19, "NONE if the distribution to all intact piles fails, or the greatest use is 0", () -> {
            says("", "factor(0) = NONE; factor(1) = NONE");
            says(IN_LINE, "factor(0) = NONE; factor(1) = NONE");
            says(SQUARE, "factor(0) = NONE; factor(1) = NONE");
            says(SQUARE + "c18 18 0;", "factor(0) = NONE; loads(0, 1); factor(0) = NONE; moves(0, 0, 0); factor(0) = 40;"
                    + "factor(1) = 1");
        });
        Sentences.sentence(19, "1 divided by the greatest use", () ->
            says(SQUARE + "c9 9 40;", "most(0) = 1; factor(0) = 1; factor(1) = 1; loads(0, 60); most(0) = 3; most(1) = 2;"
                    + "factor(0) = 2; factor(1) = 3"));
    }
}
