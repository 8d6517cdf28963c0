/**
 * For each promise of the document ordinary inputs, the edges and wrong inputs. Most answers were worked out by hand on
 * the square: four equal piles at (-3, -3), (3, -3), (-3, 3) and (3, 3).
 */
public final class PromisesTest {
    private static final int BAD = -1, STATE = -2, FULL = -3, NONE = -9;
    private static final long NO = -1000000000000000000L, NOT = -2000000000000000000L;
    private static final int LOW = Integer.MIN_VALUE, HIGH = Integer.MAX_VALUE;
    private static final String SQUARE = "p6 6 1 10;p12 6 1 10;p6 12 1 10;p12 12 1 10;";
    private static final String IN_LINE = "p0 9 1 50;p9 9 2 50;p18 9 1 50;c12 9 30;";
    private static final String EIGHT = "p0 0 1 9;p1 0 1 9;p2 0 1 9;p3 0 1 9;p4 0 1 9;p5 0 1 9;p6 0 1 9;p7 7 1 9;";

    private static int checked = 0;
    private static int wrong = 0;

    private static void due(int promise, String call, long got, long want) {
        checked++;
        if (got != want) {
            wrong++;
            System.out.println("promise " + promise + ": " + call + " answered " + got + ", due is " + want);
        }
    }

    public static void main(String[] args) {
        constants();
        newObject();
        type();
        clear();
        tells();
        tellsErrors();
        tellsBeginsAnew();
        drives();
        losesAndMends();
        loads();
        moves();
        winds();
        undo();
        undoRestoresEachAction();
        pile();
        column();
        sum();
        sharing();
        sharingReleases();
        sharingRegains();
        share();
        press();
        most();
        factor();
        kern();
        kerns();
        without();
        key();
        extra();
        odds();
        hunts();
        sees();
        forget();
        spots();
        ask();
        keepAndBack();
        count();
        errorsChangeNothing();
        System.out.println(checked + " answers, " + wrong + " not as due");
        if (wrong != 0) {
            System.exit(1);
        }
    }

    private static PileShares cap(String text) {
        PileShares cap = new PileShares();
        write(cap, text);
        if (cap.tells() < 0) {
            due(4, "tells() of " + text, -1, 0);
        }
        return cap;
    }

    private static void write(PileShares cap, String text) {
        for (char letter : text.toCharArray()) {
            cap.type(letter);
        }
    }

    private static int told(String text) {
        PileShares cap = new PileShares();
        write(cap, text);
        return cap.tells();
    }

    private static void constants() {
        due(0, "BAD", PileShares.BAD, BAD);
        due(0, "STATE", PileShares.STATE, STATE);
        due(0, "FULL", PileShares.FULL, FULL);
        due(0, "NONE", PileShares.NONE, NONE);
        due(0, "NO", PileShares.NO, NO);
        due(0, "NOT", PileShares.NOT, NOT);
    }

    private static void newObject() {
        PileShares cap = new PileShares();
        int[] counts = {0, 0, 0, 10, 0, 0, 0};
        for (int what = 0; what < counts.length; what++) {
            due(1, "count(" + what + ")", cap.count(what), counts[what]);
        }
        for (int what = 0; what < 5; what++) {
            due(1, "sum(" + what + ")", cap.sum(what), 0);
        }
        due(1, "undo()", cap.undo(), STATE);
        due(1, "back(0)", cap.back(0), STATE);
        due(1, "back(1)", cap.back(1), STATE);
        due(1, "sharing(0)", cap.sharing(0), 1);
        due(1, "sharing(1)", cap.sharing(1), 0);
        due(1, "sharing(2)", cap.sharing(2), NONE);
        due(1, "press(0, 0, 0)", cap.press(0, 0, 0), NOT);
        due(1, "most(0)", cap.most(0), NONE);
        due(1, "factor(0)", cap.factor(0), NONE);
        due(1, "kern(0, 0)", cap.kern(0, 0), NONE);
        due(1, "kerns(0)", cap.kerns(0), NONE);
        due(1, "key()", cap.key(), NONE);
        due(1, "extra(9, 99)", cap.extra(9, 99), NONE);
        due(1, "odds(0, 0)", cap.odds(0, 0), 0);
        due(1, "odds(0, 1)", cap.odds(0, 1), 1);
        due(1, "spots(0)", cap.spots(0), 0);
        due(1, "spots(1)", cap.spots(1), NONE);
        due(1, "ask()", cap.ask(), NONE);
        due(1, "clear()", cap.clear(), 0);
        due(1, "tells()", cap.tells(), 0);
    }

    private static void type() {
        PileShares cap = new PileShares();
        due(2, "type(0)", cap.type(0), 1);
        due(2, "type(255)", cap.type(255), 2);
        for (int letter : new int[] {-1, 256, LOW, HIGH}) {
            due(2, "type(" + letter + ")", cap.type(letter), BAD);
        }
        for (int n = 3; n <= 160; n++) {
            due(2, "type(32)", cap.type(32), n);
        }
        due(2, "type(32) of a full text", cap.type(32), FULL);
        due(2, "type(-1) of a full text", cap.type(-1), BAD);
        due(2, "count(5)", cap.count(5), 160);
        due(2, "tells()", cap.tells(), -10);
    }

    private static void clear() {
        PileShares cap = cap(SQUARE);
        due(3, "clear()", cap.clear(), 0);
        write(cap, "w5 5;");
        due(3, "clear()", cap.clear(), 5);
        due(3, "count(5)", cap.count(5), 0);
        due(3, "tells() of the cleared text", cap.tells(), 0);
        for (int n = 0; n < 160; n++) {
            cap.type(59);
        }
        due(3, "clear()", cap.clear(), 160);
        due(3, "type(59)", cap.type(59), 1);
    }

    private static void tells() {
        due(4, "an empty text", told(""), 0);
        due(4, "blanks", told("   "), 0);
        due(4, "least numbers", told("p0 0 1 1;c0 0 0;w0 0;"), 3);
        due(4, "greatest numbers", told("p18 18 9 99;c18 18 99;w198 198;"), 3);
        due(4, "blanks anywhere", told("  p  1 2  3 4  ;  c 1 2 3 ;w 4  5 ; "), 3);
        due(4, "columns where piles and columns are", told("p1 1 1 1;c1 1 1;c1 1 1;"), 3);
        due(4, "as many as can be", told(EIGHT + "c0 0 1;c0 0 1;c0 0 1;c0 0 1;c0 0 1;w9 9;"), 14);
        PileShares cap = cap("c0 18 7; p18 0 9 99; w0 198;c5 6 0; p 3 4 2 1;");
        due(4, "pile(0, 0)", cap.pile(0, 0), 9);
        due(4, "pile(0, 1)", cap.pile(0, 1), -9);
        due(4, "pile(0, 2)", cap.pile(0, 2), 9);
        due(4, "pile(0, 3)", cap.pile(0, 3), 99);
        due(4, "pile(0, 4)", cap.pile(0, 4), 1);
        due(4, "pile(1, 0)", cap.pile(1, 0), -6);
        due(4, "pile(1, 3)", cap.pile(1, 3), 1);
        due(4, "column(0, 0)", cap.column(0, 0), -9);
        due(4, "column(0, 1)", cap.column(0, 1), 9);
        due(4, "column(0, 2)", cap.column(0, 2), 7);
        due(4, "column(1, 1)", cap.column(1, 1), -3);
        due(4, "sum(3)", cap.sum(3), -99);
        due(4, "sum(4)", cap.sum(4), 99);
        due(4, "count(5)", cap.count(5), 0);
        write(cap, "p1 1 1 1;");
        due(4, "tells()", cap.tells(), 1);
        due(4, "count(0)", cap.count(0), 1);
        due(4, "count(2)", cap.count(2), 0);
        due(4, "sum(3) of a text without wind", cap.sum(3), 0);
        due(4, "sum(4) of a text without wind", cap.sum(4), 0);
    }

    private static void errorAt(int position, String text) {
        due(4, "tells() of '" + text + "'", told(text), -10 - position);
    }

    private static void tellsErrors() {
        errorAt(0, ";");
        errorAt(0, "5");
        errorAt(2, "  x");
        errorAt(0, "P0 0 1 1;");
        errorAt(1, "p;");
        errorAt(1, "pp");
        errorAt(1, "p");
        errorAt(3, "p  ");
        errorAt(8, "p0 0 1 1");
        errorAt(10, "p0 0 1 1  ");
        errorAt(9, "p0 0 1 1 1;");
        errorAt(6, "p0 0 1;");
        errorAt(1, "p19 0 1 1;");
        errorAt(3, "p0 19 1 1;");
        errorAt(5, "p0 0 0 1;");
        errorAt(5, "p0 0 10 1;");
        errorAt(7, "p0 0 1 0;");
        errorAt(7, "p0 0 1 100;");
        errorAt(1, "p-1 0 1 1;");
        errorAt(1, "pw0 0;");
        errorAt(3, "p1 w0 0;");
        errorAt(5, "p1 1 w0 0;");
        errorAt(7, "p1 1 1 w0 0;");
        errorAt(9, "p1 1 1 1 w0 0;");
        errorAt(1, "cw0 0;");
        errorAt(3, "c1 w0 0;");
        errorAt(5, "c1 1 w0 0;");
        errorAt(7, "c1 1 1 w0 0;");
        errorAt(1, "wc0 0 0;");
        errorAt(3, "w1 c0 0 0;");
        errorAt(5, "w1 1 c0 0 0;");
        errorAt(12, "p0 0 1 1;p0 0 1 1;");
        errorAt(23, "p0 0 1 1;p0 1 1 1; p 0 0 1 1;");
        errorAt(1, "c19 0 0;");
        errorAt(3, "c0 19 0;");
        errorAt(5, "c0 0 100;");
        errorAt(4, "c0 0;");
        errorAt(1, "w199 0;");
        errorAt(3, "w0 199;");
        errorAt(4, "w0 0");
        errorAt(5, "w0 0;w0 0;");
        errorAt(4, "w0 0w");
        errorAt(1, "w00 0;");
        errorAt(3, "w0 05;");
        errorAt(1, "w4294967296 0;");
        errorAt(3, "w0 18446744073709551616;");
        errorAt(1, "w" + "9".repeat(150));
        errorAt(0, "00");
        errorAt(5, "w1 1;" + (char) 9);
        errorAt(5, "w1 1;" + (char) 255 + (char) 0);
        errorAt(1, "p" + (char) 160 + "1 1 1 1;");
        errorAt(EIGHT.length(), EIGHT + "p9 9 1 1;");
        errorAt(35, "c0 0 1;c0 0 1;c0 0 1;c0 0 1;c0 0 1;c0 0 1;");
        // what a longer text left behind is not read
        for (String longer : new String[] {"w5 5;", "w5 555", "w5 5  ", "w5 5 ;"}) {
            PileShares cleared = new PileShares();
            write(cleared, longer);
            cleared.clear();
            write(cleared, "w5 5");
            due(4, "tells() of 'w5 5' after '" + longer + "'", cleared.tells(), -14);
        }
        PileShares cap = cap(SQUARE + "c9 9 40;w100 99;");
        cap.winds(0, 0);
        cap.keep(1);
        cap.hunts(20);
        cap.sees(0, 5);
        write(cap, "p1 1 1 1;w0 0;x");
        due(4, "tells() of an error", cap.tells(), -24);
        due(4, "the text stays", cap.count(5), 15);
        int[] counts = {4, 4, 1, 20, 1, 15, 1};
        for (int what = 0; what < counts.length; what++) {
            due(4, "count(" + what + ") after an error", cap.count(what), counts[what]);
        }
        due(4, "pile(0, 0) after an error", cap.pile(0, 0), -3);
        due(4, "undo() after an error", cap.undo(), 0);
        due(4, "sum(3) after an error", cap.sum(3), 1);
        due(4, "back(1) after an error", cap.back(1), 4);
    }

    private static void tellsBeginsAnew() {
        PileShares cap = cap(SQUARE + "c9 9 40;w100 99;");
        cap.loses(0);
        cap.keep(0);
        cap.keep(1);
        cap.hunts(20);
        cap.sees(0, 5);
        write(cap, SQUARE);
        due(4, "tells()", cap.tells(), 4);
        int[] counts = {4, 4, 0, 10, 0, 0, 0};
        for (int what = 0; what < counts.length; what++) {
            due(4, "count(" + what + ")", cap.count(what), counts[what]);
        }
        due(4, "back(0)", cap.back(0), STATE);
        due(4, "back(1)", cap.back(1), STATE);
        due(4, "undo()", cap.undo(), STATE);
        due(4, "spots(0)", cap.spots(0), 49);
        due(4, "tells() of an empty text", cap.tells(), 0);
        due(4, "count(0) of an empty text", cap.count(0), 0);
        due(4, "count(1) of an empty text", cap.count(1), 0);
    }

    private static void drives() {
        PileShares cap = new PileShares();
        due(5, "drives(-9, 9, 1, 99)", cap.drives(-9, 9, 1, 99), 0);
        due(5, "drives(9, -9, 9, 1)", cap.drives(9, -9, 9, 1), 1);
        due(5, "pile(1, 0)", cap.pile(1, 0), 9);
        due(5, "pile(1, 1)", cap.pile(1, 1), -9);
        due(5, "pile(1, 2)", cap.pile(1, 2), 9);
        due(5, "pile(1, 3)", cap.pile(1, 3), 1);
        due(5, "pile(1, 4)", cap.pile(1, 4), 1);
        int[][] bad = {{-10, 0, 1, 1}, {10, 0, 1, 1}, {0, -10, 1, 1}, {0, 10, 1, 1}, {0, 0, 0, 1}, {0, 0, 10, 1},
            {0, 0, 1, 0}, {0, 0, 1, 100}, {LOW, 0, 1, 1}, {0, HIGH, 1, 1}, {-9, 9, 0, 1}, {-9, 9, 1, 100}};
        for (int[] b : bad) {
            due(5, "drives() with a bad argument", cap.drives(b[0], b[1], b[2], b[3]), BAD);
        }
        due(5, "drives(-9, 9, 2, 2)", cap.drives(-9, 9, 2, 2), STATE);
        cap.loses(0);
        due(5, "drives(-9, 9, 2, 2) where a lost pile is", cap.drives(-9, 9, 2, 2), STATE);
        due(5, "pile(0, 2)", cap.pile(0, 2), 1);
        for (int p = 2; p < 8; p++) {
            due(5, "drives(0, " + p + ", 1, 1)", cap.drives(0, p, 1, 1), p);
        }
        due(5, "a ninth pile", cap.drives(0, 0, 1, 1), FULL);
        due(5, "a ninth pile where one is", cap.drives(0, 7, 1, 1), STATE);
        due(5, "a ninth pile out of range", cap.drives(0, 7, 0, 1), BAD);
        due(5, "count(0)", cap.count(0), 8);
        due(5, "count(6)", cap.count(6), 6);
    }

    private static void losesAndMends() {
        PileShares cap = cap(SQUARE);
        for (int p : new int[] {-1, 4, 8, 32, LOW, HIGH}) {
            due(6, "loses(" + p + ")", cap.loses(p), BAD);
            due(7, "mends(" + p + ")", cap.mends(p), BAD);
        }
        due(7, "mends(3) of an intact pile", cap.mends(3), STATE);
        due(6, "loses(3)", cap.loses(3), 3);
        due(6, "pile(3, 4)", cap.pile(3, 4), 0);
        due(6, "loses(3) again", cap.loses(3), STATE);
        due(6, "loses(0)", cap.loses(0), 2);
        due(6, "count(1)", cap.count(1), 2);
        due(6, "count(0)", cap.count(0), 4);
        due(7, "mends(3)", cap.mends(3), 3);
        due(7, "pile(3, 4)", cap.pile(3, 4), 1);
        due(7, "pile(0, 4)", cap.pile(0, 4), 0);
        due(7, "mends(3) again", cap.mends(3), STATE);
        due(7, "mends(0)", cap.mends(0), 4);
        due(7, "count(6)", cap.count(6), 4);
    }

    private static void loads() {
        PileShares cap = cap("c0 0 5;c1 1 99;");
        due(8, "loads(0, 0)", cap.loads(0, 0), 5);
        due(8, "loads(0, 99)", cap.loads(0, 99), 0);
        due(8, "loads(0, 99)", cap.loads(0, 99), STATE);
        due(8, "loads(1, 98)", cap.loads(1, 98), 99);
        due(8, "column(0, 2)", cap.column(0, 2), 99);
        due(8, "column(1, 2)", cap.column(1, 2), 98);
        for (int[] b : new int[][] {{2, 1}, {-1, 1}, {5, 1}, {0, -1}, {0, 100}, {LOW, 1}, {HIGH, 99}, {0, HIGH}}) {
            due(8, "loads(" + b[0] + ", " + b[1] + ")", cap.loads(b[0], b[1]), BAD);
        }
        due(8, "count(6)", cap.count(6), 3);
    }

    private static void moves() {
        PileShares cap = cap("p9 9 1 1;c0 0 5;c1 1 99;");
        due(9, "moves(0, -9, -9)", cap.moves(0, -9, -9), STATE);
        due(9, "moves(0, -9, -8)", cap.moves(0, -9, -8), 1);
        due(9, "moves(0, -8, -8) where a column is", cap.moves(0, -8, -8), 1);
        due(9, "moves(1, 0, 0) where a pile is", cap.moves(1, 0, 0), 1);
        due(9, "moves(0, 9, 9)", cap.moves(0, 9, 9), 1);
        due(9, "column(0, 0)", cap.column(0, 0), 9);
        due(9, "column(0, 1)", cap.column(0, 1), 9);
        due(9, "column(0, 2)", cap.column(0, 2), 5);
        due(9, "column(1, 0)", cap.column(1, 0), 0);
        int[][] bad = {{2, 0, 0}, {-1, 0, 0}, {0, 10, 9}, {0, 9, 10}, {0, -10, 0}, {0, 0, -10}, {LOW, 0, 0}, {0, HIGH, 0}};
        for (int[] b : bad) {
            due(9, "moves() with a bad argument", cap.moves(b[0], b[1], b[2]), BAD);
        }
        due(9, "count(6)", cap.count(6), 4);
    }

    private static void winds() {
        PileShares cap = new PileShares();
        due(10, "winds(0, 0)", cap.winds(0, 0), STATE);
        due(10, "winds(-99, 99)", cap.winds(-99, 99), 1);
        due(10, "winds(-99, 99)", cap.winds(-99, 99), STATE);
        due(10, "winds(-99, 98)", cap.winds(-99, 98), 1);
        due(10, "winds(99, -99)", cap.winds(99, -99), 1);
        due(10, "sum(1)", cap.sum(1), 99);
        due(10, "sum(2)", cap.sum(2), -99);
        for (int[] b : new int[][] {{-100, 0}, {100, 0}, {0, -100}, {0, 100}, {LOW, 0}, {0, HIGH}}) {
            due(10, "winds(" + b[0] + ", " + b[1] + ")", cap.winds(b[0], b[1]), BAD);
        }
        due(10, "count(6)", cap.count(6), 3);
    }

    private static void undo() {
        PileShares cap = new PileShares();
        due(11, "undo()", cap.undo(), STATE);
        for (int i = 1; i <= 8; i++) {
            cap.winds(i, -i);
            due(11, "count(6)", cap.count(6), Math.min(i, 6));
        }
        for (int left = 5; left >= 0; left--) {
            due(11, "undo()", cap.undo(), left);
            due(11, "sum(3)", cap.sum(3), left + 2);
            due(11, "sum(4)", cap.sum(4), -left - 2);
        }
        due(11, "undo()", cap.undo(), STATE);
        due(11, "sum(3)", cap.sum(3), 2);
        cap.winds(7, 7);
        due(11, "undo()", cap.undo(), 0);
    }

    private static void undoRestoresEachAction() {
        PileShares cap = cap(SQUARE + "c9 9 40;w100 99;");
        cap.loses(1);
        cap.drives(0, 0, 5, 50);
        cap.mends(1);
        cap.loads(0, 41);
        cap.moves(0, 2, 3);
        cap.winds(5, 6);
        cap.hunts(30);
        cap.sees(4, 2);
        due(11, "undo() of winds", cap.undo(), 5);
        due(11, "sum(3)", cap.sum(3), 1);
        due(11, "sum(4)", cap.sum(4), 0);
        due(11, "column(0, 0)", cap.column(0, 0), 2);
        due(11, "undo() of moves", cap.undo(), 4);
        due(11, "column(0, 0)", cap.column(0, 0), 0);
        due(11, "column(0, 1)", cap.column(0, 1), 0);
        due(11, "column(0, 2)", cap.column(0, 2), 41);
        due(11, "undo() of loads", cap.undo(), 3);
        due(11, "column(0, 2)", cap.column(0, 2), 40);
        due(11, "pile(1, 4)", cap.pile(1, 4), 1);
        due(11, "undo() of mends", cap.undo(), 2);
        due(11, "pile(1, 4)", cap.pile(1, 4), 0);
        due(11, "count(0)", cap.count(0), 5);
        due(11, "undo() of drives", cap.undo(), 1);
        due(11, "count(0)", cap.count(0), 4);
        due(11, "pile(4, 0)", cap.pile(4, 0), NO);
        due(11, "undo() of loses", cap.undo(), 0);
        due(11, "pile(1, 4)", cap.pile(1, 4), 1);
        due(11, "undo() leaves the unknown load", cap.count(3), 30);
        due(11, "undo() leaves the observations", cap.count(4), 1);
        due(11, "drives(0, 0, 1, 1)", cap.drives(0, 0, 1, 1), 4);
    }

    private static void pile() {
        PileShares cap = cap(SQUARE + "p9 18 3 7;c11 11 40;");
        cap.loses(4);
        int[] properties = {0, 9, 3, 7, 0, 0};
        for (int what = 0; what < 6; what++) {
            due(12, "pile(4, " + what + ")", cap.pile(4, what), properties[what]);
        }
        due(12, "pile(0, 5) of a released pile", cap.pile(0, 5), 0);
        due(12, "pile(0, 4) of a released pile", cap.pile(0, 4), 1);
        due(12, "pile(1, 5) of an active pile", cap.pile(1, 5), 1);
        for (int[] b : new int[][] {{5, 0}, {-1, 0}, {0, -1}, {0, 6}, {LOW, 5}, {HIGH, 5}, {0, HIGH}, {8, 5}}) {
            due(12, "pile(" + b[0] + ", " + b[1] + ")", cap.pile(b[0], b[1]), NO);
        }
        cap.loads(0, 0);
        due(12, "pile(0, 5) without loads", cap.pile(0, 5), 1);
        cap.winds(1, 0);
        due(12, "pile(0, 5) where it fails", cap.pile(0, 5), NONE);
        due(12, "pile(4, 5) where it fails", cap.pile(4, 5), NONE);
        due(12, "pile(4, 4) where it fails", cap.pile(4, 4), 0);
    }

    private static void column() {
        PileShares cap = cap("c0 18 99;c10 8 0;");
        int[][] properties = {{-9, 9, 99}, {1, -1, 0}};
        for (int c = 0; c < 2; c++) {
            for (int what = 0; what < 3; what++) {
                due(13, "column(" + c + ", " + what + ")", cap.column(c, what), properties[c][what]);
            }
        }
        for (int[] b : new int[][] {{2, 0}, {-1, 0}, {0, -1}, {0, 3}, {5, 0}, {LOW, 0}, {HIGH, 0}, {0, LOW}}) {
            due(13, "column(" + b[0] + ", " + b[1] + ")", cap.column(b[0], b[1]), NO);
        }
    }

    private static void sum() {
        PileShares cap = cap("c0 18 99;c10 8 10;w100 50;");
        int[] totals = {109, -891 + 10 + 1, 891 - 10 - 49, 1, -49};
        for (int what = 0; what < 5; what++) {
            due(14, "sum(" + what + ")", cap.sum(what), totals[what]);
        }
        for (int what : new int[] {-1, 5, LOW, HIGH}) {
            due(14, "sum(" + what + ")", cap.sum(what), NO);
        }
        cap.loads(0, 0);
        due(14, "sum(0)", cap.sum(0), 10);
        due(14, "sum(1)", cap.sum(1), 11);
        cap = cap("c18 18 99;c18 18 99;c18 18 99;c18 18 99;c18 18 99;w198 0;");
        due(14, "sum(0) of the greatest loads", cap.sum(0), 495);
        due(14, "sum(1) of the greatest loads", cap.sum(1), 4554);
        due(14, "sum(2) of the greatest loads", cap.sum(2), 4356);
    }

    private static void isSharing(int promise, PileShares cap, String text, int rounds, int settled, int released) {
        due(promise, "sharing(0) of " + text, cap.sharing(0), rounds);
        due(promise, "sharing(1) of " + text, cap.sharing(1), settled);
        due(promise, "sharing(2) of " + text, cap.sharing(2), released);
    }

    private static void sharing() {
        isSharing(15, cap(SQUARE + "c9 9 40;"), "a load in the middle", 1, 1, 0);
        isSharing(15, cap(SQUARE + "c12 9 40;"), "a load that leaves two shares 0", 1, 1, 0);
        isSharing(15, cap(SQUARE + "c11 11 40;"), "a load that releases one pile", 2, 1, 1);
        isSharing(15, cap(SQUARE + "c13 9 40;"), "a load outside", 3, 0, NONE);
        isSharing(15, cap(IN_LINE), "piles in a line", 1, 0, NONE);
        isSharing(15, cap(SQUARE), "no load", 1, 1, 0);
        PileShares cap = cap(SQUARE + "c9 9 40;w179 179;");
        isSharing(15, cap, "the wind that releases one pile", 2, 1, 1);
        cap.loses(0);
        isSharing(15, cap, "a lost pile", 1, 1, 0);
        cap.mends(0);
        cap.loses(3);
        isSharing(15, cap, "another lost pile", 2, 0, NONE);
        for (int what : new int[] {-1, 3, LOW, HIGH}) {
            due(15, "sharing(" + what + ")", cap.sharing(what), BAD);
        }
    }

    /** Which pile is released first decides what is released at the end; the answers are the plain model's too. */
    private static void sharingReleases() {
        PileShares cap = cap(SQUARE + "p9 9 9 99;c12 9 40;");
        isSharing(15, cap, "two piles released", 3, 1, 5);
        due(16, "share(1, 0)", cap.share(1, 0), 20);
        due(16, "share(3, 0)", cap.share(3, 0), 20);
        due(16, "share(4, 0)", cap.share(4, 0), 0);
        due(12, "pile(4, 5)", cap.pile(4, 5), 1);
        isSharing(15, cap("p9 9 2 9;p9 8 1 9;p8 9 3 9;p10 10 1 9;c10 10 7;"), "two smallest shares alike", 2, 1, 2);
        isSharing(15, cap("p9 10 1 9;p8 9 3 9;p9 9 2 9;p10 8 1 9;c9 10 5;"), "the smallest share, not the smallest pressure",
                2, 1, 2);
    }

    /** Here piles that were released come back; the answers are the plain model's too. */
    private static void sharingRegains() {
        PileShares cap = cap("p5 17 2 30;p11 5 8 90;p15 9 4 62;p5 5 5 72;p17 8 4 91;p4 1 6 73;p7 8 8 20;p7 12 4 10;"
                + "c5 16 77;w154 1;");
        isSharing(15, cap, "a pile that comes back", 10, 1, 118);
        int[] actives = {1, 0, 0, 1, 0, 0, 0, 1};
        for (int p = 0; p < 8; p++) {
            due(12, "pile(" + p + ", 5)", cap.pile(p, 5), actives[p]);
        }
        isSharing(15, cap("p6 7 1 9;p13 7 2 9;p13 5 3 9;p13 13 2 9;p5 6 1 9;p11 9 2 9;p13 11 1 9;c13 6 2;"),
                "another pile that comes back", 5, 1, 17);
        isSharing(15, cap("p3 6 2 9;p15 8 3 9;p3 14 1 9;p12 9 2 9;p7 8 6 9;p4 11 4 9;c14 8 5;"),
                "the first pile comes back", 6, 1, 52);
        isSharing(15, cap("p2 5 1 9;p4 7 1 9;p15 7 1 9;p14 16 4 9;p16 18 1 9;p15 4 5 9;p12 12 4 9;c3 6 7;"),
                "two greatest pressures alike", 7, 1, 116);
        isSharing(15, cap("p12 13 1 9;p7 13 1 9;p11 13 1 9;p8 9 3 9;p10 11 6 9;p10 12 6 9;c12 13 12;"),
                "two greatest pressures alike", 8, 1, 42);
        isSharing(15, cap("p12 13 1 9;p5 12 5 9;p5 6 2 9;p5 13 1 9;p6 8 8 9;p11 11 6 9;p6 10 5 9;c5 12 11;"),
                "the greatest pressure, not the greatest share", 6, 1, 49);
    }

    private static void isShare(PileShares cap, int p, long top, long bottom, long down) {
        due(16, "share(" + p + ", 0)", cap.share(p, 0), top);
        due(16, "share(" + p + ", 1)", cap.share(p, 1), bottom);
        due(16, "share(" + p + ", 2)", cap.share(p, 2), down);
    }

    private static void share() {
        PileShares cap = cap(SQUARE + "c10 9 40;");
        isShare(cap, 0, 20, 3, 6);
        isShare(cap, 1, 40, 3, 13);
        isShare(cap, 2, 20, 3, 6);
        isShare(cap, 3, 40, 3, 13);
        cap.moves(0, 2, 2);
        isShare(cap, 0, 0, 1, 0);
        isShare(cap, 1, 20, 3, 6);
        isShare(cap, 2, 20, 3, 6);
        isShare(cap, 3, 80, 3, 26);
        cap.loses(0);
        isShare(cap, 0, 0, 1, 0);
        isShare(cap, 3, 80, 3, 26);
        for (int[] b : new int[][] {{4, 0}, {-1, 0}, {0, 3}, {0, -1}, {LOW, 0}, {HIGH, 2}, {1, HIGH}}) {
            due(16, "share(" + b[0] + ", " + b[1] + ")", cap.share(b[0], b[1]), NO);
        }
        cap.loses(1);
        for (int p = 0; p < 4; p++) {
            isShare(cap, p, NOT, NOT, NOT);
        }
        due(16, "share(4, 0) where it fails", cap.share(4, 0), NO);
        due(16, "share(0, 3) where it fails", cap.share(0, 3), NO);
        // twice as stiff takes twice as much of the same pressure
        cap = cap("p6 9 2 10;p12 6 1 10;p12 12 1 10;c9 9 40;");
        isShare(cap, 0, 20, 1, 20);
        isShare(cap, 1, 10, 1, 10);
        isShare(cap, 2, 10, 1, 10);
    }

    private static void press() {
        PileShares cap = cap(SQUARE + "c11 11 40;");
        due(17, "press(-3, -3, 0)", cap.press(-3, -3, 0), -40);
        due(17, "press(-3, -3, 1)", cap.press(-3, -3, 1), 3);
        due(17, "press(9, 9, 0)", cap.press(9, 9, 0), 200);
        due(17, "press(9, 9, 1)", cap.press(9, 9, 1), 3);
        due(17, "press(-2, 0, 0)", cap.press(-2, 0, 0), 0);
        due(17, "press(-2, 0, 1)", cap.press(-2, 0, 1), 1);
        due(17, "press(-9, 9, 0)", cap.press(-9, 9, 0), 20);
        due(17, "press(-9, 9, 1)", cap.press(-9, 9, 1), 3);
        int[][] bad = {{-10, 0, 0}, {10, 0, 0}, {0, -10, 0}, {0, 10, 0}, {0, 0, -1}, {0, 0, 2}, {LOW, 0, 0}, {0, HIGH, 1}};
        for (int[] b : bad) {
            due(17, "press() with a bad argument", cap.press(b[0], b[1], b[2]), NO);
        }
        cap.loads(0, 0);
        due(17, "press(9, 9, 0) without loads", cap.press(9, 9, 0), 0);
        due(17, "press(9, 9, 1) without loads", cap.press(9, 9, 1), 1);
        cap.winds(1, 1);
        due(17, "press(0, 0, 0) where it fails", cap.press(0, 0, 0), NOT);
        due(17, "press(0, 0, 1) where it fails", cap.press(0, 0, 1), NOT);
        due(17, "press(0, 10, 1) where it fails", cap.press(0, 10, 1), NO);
    }

    private static void isMost(PileShares cap, long top, long bottom, long p) {
        due(18, "most(0)", cap.most(0), top);
        due(18, "most(1)", cap.most(1), bottom);
        due(18, "most(2)", cap.most(2), p);
    }

    private static void most() {
        PileShares cap = cap(SQUARE + "c9 9 40;");
        isMost(cap, 1, 1, 0);
        cap.moves(0, 2, 2);
        isMost(cap, 8, 3, 3);
        cap.moves(0, 1, 0);
        isMost(cap, 4, 3, 1);
        cap.loads(0, 0);
        isMost(cap, 0, 1, 0);
        cap.loses(0);
        isMost(cap, 0, 1, 1);
        cap.winds(0, 1);
        isMost(cap, NONE, NONE, NONE);
        isMost(cap(IN_LINE), NONE, NONE, NONE);
        // the greatest share is not the greatest use
        isMost(cap("p6 9 2 99;p12 6 1 7;p12 12 1 7;c9 9 40;"), 10, 7, 1);
        cap = cap(SQUARE + "c9 9 40;");
        for (int p = 0; p < 4; p++) {
            cap.loses(p);
        }
        isMost(cap, NONE, NONE, NONE);
        for (int what : new int[] {-1, 3, LOW, HIGH}) {
            due(18, "most(" + what + ")", cap.most(what), BAD);
        }
    }

    private static void factor() {
        PileShares cap = cap(SQUARE + "c11 11 40;");
        due(19, "factor(0)", cap.factor(0), 3);
        due(19, "factor(1)", cap.factor(1), 8);
        cap.moves(0, 0, 0);
        due(19, "factor(0) of the use 1", cap.factor(0), 1);
        due(19, "factor(1) of the use 1", cap.factor(1), 1);
        cap.loads(0, 0);
        due(19, "factor(0) of the use 0", cap.factor(0), NONE);
        due(19, "factor(1) of the use 0", cap.factor(1), NONE);
        cap.winds(1, 0);
        due(19, "factor(0) where it fails", cap.factor(0), NONE);
        for (int what : new int[] {-1, 2, LOW, HIGH}) {
            due(19, "factor(" + what + ")", cap.factor(what), BAD);
        }
    }

    private static void kern() {
        PileShares cap = cap(SQUARE + "c18 18 99;w0 0;");
        for (int[] place : new int[][] {{0, 0}, {3, 0}, {0, -3}, {-1, 2}, {-2, -1}}) {
            due(20, "kern(" + place[0] + ", " + place[1] + ")", cap.kern(place[0], place[1]), 1);
        }
        for (int[] place : new int[][] {{2, 2}, {4, 0}, {-3, 1}, {3, 3}, {9, 9}, {-9, -9}}) {
            due(20, "kern(" + place[0] + ", " + place[1] + ")", cap.kern(place[0], place[1]), 0);
        }
        for (int[] place : new int[][] {{-10, 0}, {10, 0}, {0, -10}, {0, 10}, {LOW, 0}, {0, HIGH}}) {
            due(20, "kern(" + place[0] + ", " + place[1] + ")", cap.kern(place[0], place[1]), BAD);
        }
        cap.loses(0);
        due(20, "kern(3, 3) of three piles", cap.kern(3, 3), 1);
        due(20, "kern(-1, 0) of three piles", cap.kern(-1, 0), 0);
        cap.loses(1);
        due(20, "kern(3, 3) of two piles", cap.kern(3, 3), NONE);
        due(20, "kern(10, 3) of two piles", cap.kern(10, 3), BAD);
    }

    private static void kerns() {
        PileShares cap = cap(SQUARE + "c18 18 99;w0 0;");
        due(21, "kerns(0)", cap.kerns(0), 25);
        due(21, "kerns(1)", cap.kerns(1), 19 * 6 + 9);
        cap.loses(0);
        due(21, "kerns(0) of three piles", cap.kerns(0), 28);
        due(21, "kerns(1) of three piles", cap.kerns(1), 19 * 6 + 12);
        cap.loses(1);
        due(21, "kerns(0) of two piles", cap.kerns(0), NONE);
        due(21, "kerns(1) of two piles", cap.kerns(1), NONE);
        cap = cap("p0 0 1 9;p0 18 1 9;p18 0 1 9;");
        due(21, "kerns(0) of a half of all places", cap.kerns(0), 190);
        due(21, "kerns(1) of a half of all places", cap.kerns(1), 0);
        due(21, "kerns(0) of the other half", cap("p18 18 1 9;p0 18 1 9;p18 0 1 9;").kerns(0), 190);
        cap = cap("p9 9 9 9;p10 9 9 9;p9 10 9 9;p10 10 9 9;");
        due(21, "kerns(0) of a kern between the places", cap.kerns(0), 0);
        due(21, "kerns(1) of a kern between the places", cap.kerns(1), NONE);
        for (int what : new int[] {-1, 2, LOW, HIGH}) {
            due(21, "kerns(" + what + ")", cap.kerns(what), BAD);
        }
    }

    private static void isWithout(PileShares cap, int p, long top, long bottom, long most) {
        due(22, "without(" + p + ", 0)", cap.without(p, 0), top);
        due(22, "without(" + p + ", 1)", cap.without(p, 1), bottom);
        due(22, "without(" + p + ", 2)", cap.without(p, 2), most);
    }

    private static void without() {
        PileShares cap = cap(SQUARE + "c9 9 40;");
        isWithout(cap, 0, 2, 1, 1);
        isWithout(cap, 1, 2, 1, 0);
        cap.moves(0, 1, 1);
        isWithout(cap, 0, 4, 3, 1);
        isWithout(cap, 1, 8, 3, 3);
        isWithout(cap, 3, NONE, NONE, NONE);
        due(22, "count(1)", cap.count(1), 4);
        due(22, "count(6)", cap.count(6), 1);
        for (int[] b : new int[][] {{4, 0}, {-1, 0}, {0, 3}, {0, -1}, {LOW, 0}, {HIGH, 0}, {0, HIGH}}) {
            due(22, "without(" + b[0] + ", " + b[1] + ")", cap.without(b[0], b[1]), BAD);
        }
        cap.loses(2);
        isWithout(cap, 2, STATE, STATE, STATE);
        due(22, "without(2, 3) of a lost pile", cap.without(2, 3), BAD);
        isWithout(cap, 0, NONE, NONE, NONE);
        cap.loses(0);
        cap.loses(1);
        isWithout(cap, 3, NONE, NONE, NONE);
    }

    private static void key() {
        PileShares cap = cap(SQUARE + "c9 9 40;");
        due(23, "key() of equal uses", cap.key(), 0);
        cap.moves(0, 1, 1);
        due(23, "key() where a loss fails", cap.key(), 3);
        cap.moves(0, 1, 0);
        due(23, "key() where two losses fail", cap.key(), 1);
        cap.loses(1);
        due(23, "key() of three piles", cap.key(), 0);
        cap.loses(0);
        due(23, "key() of two piles", cap.key(), 2);
        cap.loses(2);
        cap.loses(3);
        due(23, "key() without piles", cap.key(), NONE);
        // a pile in the middle carries most of it
        due(23, "key() of a great share", cap(SQUARE + "p9 9 9 90;c9 9 40;").key(), 4);
        due(23, "key() of a small capacity", cap("p6 6 1 10;p12 6 1 10;p6 12 1 10;p12 12 1 1;p9 9 9 90;c9 9 40;").key(), 4);
        // without 0 or 3 each of 1 and 2 carries 20, and the other way round
        int[][] capacities = {{5, 10, 1}, {10, 5, 0}, {8, 10, 1}, {10, 8, 0}, {9, 10, 1}, {8, 9, 1}, {9, 8, 0}, {7, 8, 1},
            {8, 7, 0}, {10, 9, 0}, {98, 99, 1}, {99, 98, 0}, {40, 40, 0}, {60, 61, 1}, {61, 60, 0}};
        for (int[] b : capacities) {
            String text = "p6 6 1 " + b[0] + ";p12 6 1 " + b[1] + ";p6 12 1 " + b[1] + ";p12 12 1 " + b[0] + ";c9 9 40;";
            due(23, "key() of " + text, cap(text).key(), b[2]);
        }
    }

    private static void extra() {
        // on two piles the further one is anywhere but in their line, and carries nothing
        PileShares cap = cap("p6 9 1 99;p12 9 1 99;c9 9 10;");
        due(24, "extra(1, 1)", cap.extra(1, 1), 0);
        cap.drives(-9, -9, 1, 1);
        due(24, "extra(1, 1) where a pile is at the first place", cap.extra(1, 1) == 0 ? 1 : 0, 0);
        cap.loses(2);
        due(24, "extra(1, 1) where a lost pile is at the first place", cap.extra(1, 1), 1);
        due(24, "count(0)", cap.count(0), 3);
        due(24, "count(6)", cap.count(6), 2);
        // the place under the load takes the most off the others
        cap = cap(SQUARE + "c9 9 40;");
        due(24, "extra(4, 99)", cap.extra(4, 99), 19 * 9 + 9);
        for (int[] b : new int[][] {{0, 1}, {10, 1}, {1, 0}, {1, 100}, {LOW, 1}, {1, HIGH}}) {
            due(24, "extra(" + b[0] + ", " + b[1] + ")", cap.extra(b[0], b[1]), BAD);
        }
        due(24, "extra(9, 99) for two piles in a line with the load outside",
                cap("p9 9 1 1;c9 12 10;w100 99;").extra(9, 99), NONE);
        // it could stand on the last place's neighbour, if that were a place
        due(24, "extra(1, 9) for a load off all places", cap("p18 18 1 9;p17 18 1 9;c18 9 2;w100 99;").extra(1, 9), NONE);
        due(24, "extra(1, 9) at the last place", cap("p18 17 1 9;p17 18 1 9;c18 18 2;").extra(1, 9), 360);
        // beside 8 piles, with the load outside of them: best is the place under the load
        due(24, "extra(1, 99) of 8 piles", cap(EIGHT + "c12 12 40;").extra(1, 99), 19 * 12 + 12);
    }

    private static void isOdds(PileShares cap, int x, long top, long bottom) {
        due(25, "odds(" + x + ", 0)", cap.odds(x, 0), top);
        due(25, "odds(" + x + ", 1)", cap.odds(x, 1), bottom);
    }

    private static void odds() {
        PileShares cap = cap(SQUARE + "c9 9 40;");
        isOdds(cap, 0, 1, 1);
        isOdds(cap, 1, 6561, 10000);
        isOdds(cap, 5, 1, 16);
        isOdds(cap, 10, 0, 1);
        cap.loads(0, 20);
        isOdds(cap, 0, 1, 1);
        isOdds(cap, 1, 9477, 10000);
        isOdds(cap, 5, 5, 16);
        isOdds(cap, 10, 0, 1);
        cap.loads(0, 41);
        isOdds(cap, 0, 0, 1);
        cap.loads(0, 0);
        isOdds(cap, 5, 5, 16);
        cap.loses(0);
        isOdds(cap, 5, 1, 8);
        isOdds(cap, 9, 1, 1000);
        cap.loses(1);
        isOdds(cap, 0, 0, 1);
        for (int[] b : new int[][] {{-1, 0}, {11, 0}, {0, -1}, {0, 2}, {LOW, 0}, {HIGH, 1}, {0, HIGH}}) {
            due(25, "odds(" + b[0] + ", " + b[1] + ")", cap.odds(b[0], b[1]), BAD);
        }
        // of 7 piles in a line and one beside it two and the one must remain: 120 of the 256 sets
        isOdds(cap(EIGHT), 5, 15, 32);
        isOdds(cap(EIGHT), 9, 93559, 6250000);
    }

    private static void hunts() {
        PileShares cap = cap(SQUARE);
        due(26, "hunts(1)", cap.hunts(1), 0);
        due(26, "count(3)", cap.count(3), 1);
        cap.sees(0, 1);
        cap.sees(0, 1);
        due(26, "hunts(99)", cap.hunts(99), 2);
        due(26, "count(3)", cap.count(3), 99);
        due(26, "count(4)", cap.count(4), 0);
        cap.sees(0, 1);
        for (int h : new int[] {0, -1, 100, LOW, HIGH}) {
            due(26, "hunts(" + h + ")", cap.hunts(h), BAD);
        }
        due(26, "count(3)", cap.count(3), 99);
        due(26, "count(4)", cap.count(4), 1);
        due(26, "hunts(99) again", cap.hunts(99), 1);
        due(26, "count(6)", cap.count(6), 0);
    }

    private static void sees() {
        PileShares cap = cap(SQUARE);
        cap.loses(3);
        for (int[] b : new int[][] {{4, 0}, {-1, 0}, {0, -1}, {0, 1000}, {LOW, 0}, {HIGH, 0}, {0, HIGH}}) {
            due(27, "sees(" + b[0] + ", " + b[1] + ")", cap.sees(b[0], b[1]), BAD);
        }
        due(27, "sees(0, 999)", cap.sees(0, 999), 1);
        due(27, "sees(3, 0) of a lost pile", cap.sees(3, 0), 2);
        for (int n = 3; n <= 6; n++) {
            due(27, "sees(0, 0)", cap.sees(0, 0), n);
        }
        due(27, "a seventh one", cap.sees(0, 0), FULL);
        due(27, "a seventh one of no pile", cap.sees(4, 0), BAD);
        due(27, "a seventh one out of range", cap.sees(0, 1000), BAD);
        due(27, "count(4)", cap.count(4), 6);
        due(27, "count(6)", cap.count(6), 1);
    }

    private static void forget() {
        PileShares cap = cap(SQUARE);
        due(28, "forget()", cap.forget(), 0);
        cap.hunts(44);
        for (int n = 0; n < 6; n++) {
            cap.sees(n % 4, 999);
        }
        due(28, "spots(0)", cap.spots(0), 0);
        due(28, "forget()", cap.forget(), 6);
        due(28, "count(4)", cap.count(4), 0);
        due(28, "count(3)", cap.count(3), 44);
        due(28, "spots(0)", cap.spots(0), 49);
        due(28, "sees(0, 0)", cap.sees(0, 0), 1);
    }

    private static void spots() {
        PileShares cap = cap(SQUARE + "c18 18 99;w0 0;");
        due(29, "spots(0)", cap.spots(0), 49);
        due(29, "spots(1)", cap.spots(1), 19 * 6 + 6);
        PileShares half = cap("p0 0 1 9;p0 18 1 9;p18 0 1 9;");
        due(29, "spots(0) of a half of all places", half.spots(0), 190);
        due(29, "spots(1) of a half of all places", half.spots(1), 0);
        due(29, "spots(0) of the other half", cap("p18 18 1 9;p0 18 1 9;p18 0 1 9;").spots(0), 190);
        // all of the unknown load is on a pile only if it stands there
        cap.sees(1, 10);
        due(29, "spots(0)", cap.spots(0), 1);
        due(29, "spots(1)", cap.spots(1), 19 * 12 + 6);
        cap.sees(3, 0);
        due(29, "spots(0)", cap.spots(0), 1);
        cap.sees(3, 1);
        due(29, "spots(0) of two that disagree", cap.spots(0), 0);
        due(29, "spots(1) of two that disagree", cap.spots(1), NONE);
        cap.hunts(40);
        cap.sees(0, 10);
        cap.sees(1, 10);
        cap.sees(2, 10);
        cap.sees(3, 10);
        due(29, "spots(0)", cap.spots(0), 1);
        due(29, "spots(1)", cap.spots(1), 19 * 9 + 9);
        cap.loses(0);
        due(29, "spots(0) by the present piles", cap.spots(0), 0);
        cap.forget();
        cap.sees(0, 0);
        due(29, "spots(0), a lost pile has no share", cap.spots(0), 28);
        cap.forget();
        due(29, "drives(9, 9, 1, 1)", cap.drives(9, 9, 1, 1), 4);
        cap.sees(4, 0);
        cap.undo();
        due(29, "spots(0), no share without the pile", cap.spots(0), 28);
        cap.forget();
        cap.drives(9, 9, 1, 1);
        cap.sees(4, 1);
        cap.undo();
        due(29, "spots(0), no share 1 without the pile", cap.spots(0), 0);
        cap.loses(1);
        cap.forget();
        due(29, "spots(0) of two piles", cap.spots(0), 0);
        due(29, "spots(1) of two piles", cap.spots(1), NONE);
        for (int what : new int[] {-1, 2, LOW, HIGH}) {
            due(29, "spots(" + what + ")", cap.spots(what), BAD);
        }
    }

    private static void ask() {
        PileShares cap = cap(SQUARE);
        due(30, "ask() of equal piles", cap.ask(), 0);
        cap.sees(0, 10);
        due(30, "ask() of one spot", cap.ask(), NONE);
        cap.sees(0, 9);
        due(30, "ask() of no spot", cap.ask(), NONE);
        cap.forget();
        cap.sees(0, 0);
        due(30, "ask() of what is known of pile 0", cap.ask(), 3);
        cap.forget();
        cap.loses(0);
        due(30, "ask() of three equal piles", cap.ask(), 1);
        cap.hunts(1);
        for (int p = 1; p < 4; p++) {
            cap.sees(p, 0);
        }
        due(30, "ask() where each share is known, the first pile being lost", cap.ask(), 1);
        cap.loses(1);
        due(30, "ask() of two piles", cap.ask(), NONE);
        PileShares corner = cap("p0 0 1 9;p0 1 1 9;p1 0 1 9;");
        corner.sees(2, 0);
        due(30, "spots(0) at the first two places", corner.spots(0), 2);
        due(30, "ask() of the first two places", corner.ask(), 0);
        corner = cap("p18 18 1 9;p18 17 1 9;p17 18 1 9;");
        corner.sees(2, 0);
        due(30, "ask() of the last two places", corner.ask(), 0);
        // 11 spots: the pile at (0, 1) has one of them, the other two tell all but two apart
        PileShares three = cap("p9 10 1 9;p9 9 1 9;p18 9 1 9;");
        three.hunts(99);
        due(30, "ask() of a long triangle", three.ask(), 1);
    }

    private static void keepAndBack() {
        PileShares cap = cap(SQUARE + "c9 9 40;w100 98;");
        cap.loses(2);
        for (int image : new int[] {-1, 2, LOW, HIGH}) {
            due(31, "keep(" + image + ")", cap.keep(image), BAD);
            due(32, "back(" + image + ")", cap.back(image), BAD);
        }
        due(32, "back(0) of an empty image", cap.back(0), STATE);
        due(31, "keep(1)", cap.keep(1), 4);
        due(31, "count(6)", cap.count(6), 1);
        due(32, "back(0) of an empty image", cap.back(0), STATE);
        cap.hunts(50);
        cap.sees(0, 5);
        cap.drives(0, 0, 1, 1);
        cap.mends(2);
        cap.loses(0);
        cap.loads(0, 1);
        cap.moves(0, 5, 5);
        cap.winds(9, 9);
        due(31, "keep(0)", cap.keep(0), 5);
        due(32, "back(1)", cap.back(1), 4);
        due(32, "count(6)", cap.count(6), 0);
        due(32, "undo()", cap.undo(), STATE);
        due(32, "pile(2, 4)", cap.pile(2, 4), 0);
        due(32, "pile(0, 4)", cap.pile(0, 4), 1);
        due(32, "pile(4, 0)", cap.pile(4, 0), NO);
        due(32, "column(0, 0)", cap.column(0, 0), 0);
        due(32, "column(0, 2)", cap.column(0, 2), 40);
        due(32, "sum(3)", cap.sum(3), 1);
        due(32, "sum(4)", cap.sum(4), -1);
        due(32, "back() leaves the unknown load", cap.count(3), 50);
        due(32, "back() leaves the observations", cap.count(4), 1);
        cap.winds(0, 0);
        due(32, "back(1) again", cap.back(1), 4);
        due(32, "sum(3)", cap.sum(3), 1);
        due(32, "back(0)", cap.back(0), 5);
        due(32, "sum(3)", cap.sum(3), 9);
        due(32, "column(0, 0)", cap.column(0, 0), 5);
        cap.winds(3, 3);
        due(31, "keep(0) in place of what it held", cap.keep(0), 5);
        cap.winds(4, 4);
        cap.back(0);
        due(31, "sum(3)", cap.sum(3), 3);
    }

    private static void count() {
        PileShares cap = cap(SQUARE + "c9 9 40;c9 9 41;");
        cap.loses(2);
        cap.winds(1, 1);
        cap.winds(2, 2);
        cap.hunts(12);
        for (int n = 0; n < 5; n++) {
            cap.sees(0, 0);
        }
        write(cap, "w5 5;;");
        int[] counts = {4, 3, 2, 12, 5, 6, 3};
        for (int what = 0; what < counts.length; what++) {
            due(33, "count(" + what + ")", cap.count(what), counts[what]);
        }
        for (int what : new int[] {-1, 7, LOW, HIGH}) {
            due(33, "count(" + what + ")", cap.count(what), BAD);
        }
    }

    private static void errorsChangeNothing() {
        PileShares cap = cap(SQUARE + "c9 9 40;");
        cap.winds(1, 1);
        cap.drives(-3, -3, 1, 1);
        cap.drives(0, 0, 0, 1);
        cap.loses(9);
        cap.mends(0);
        cap.loads(0, 40);
        cap.loads(0, 100);
        cap.moves(0, 0, 0);
        cap.moves(1, 0, 0);
        cap.winds(1, 1);
        cap.winds(100, 1);
        cap.back(0);
        int[] counts = {4, 4, 1, 10, 0, 0, 1};
        for (int what = 0; what < counts.length; what++) {
            due(33, "count(" + what + ") after errors", cap.count(what), counts[what]);
        }
        due(11, "undo() after errors", cap.undo(), 0);
        due(11, "sum(3)", cap.sum(3), 0);
    }
}
