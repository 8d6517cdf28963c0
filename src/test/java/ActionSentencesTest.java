/** The sentences about a new object, actions, undoing and images that name a boundary: promises 1, 5 to 11, 31 to 33. */
public final class ActionSentencesTest {
    private static final String SQUARE = "p6 6 1 10;p12 6 1 10;p6 12 1 10;p12 12 1 10;";
    private static final String BUILT = SQUARE + "c9 9 40;c10 10 7;w100 98;";

    private ActionSentencesTest() { }

    public static void main(String[] args) {
        newObject();
        drives();
        losesAndMends();
        loads();
        moves();
        winds();
        actions();
        undo();
        keep();
        back();
        count();
        Sentences.end();
    }

    private static void in(String words, Runnable test) {
        Sentences.sentence(Sentences.DESCRIPTION, words, test);
    }

    private static void says(String text, String rows) {
        Sentences.says(Sentences.cap(text), rows);
    }

    private static void newObject() {
        Sentences.sentence(1, "Creates a structure without piles and columns", () ->
            Sentences.says(new PileShares(), "count(0) = 0; count(1) = 0; count(2) = 0; pile(0, 0) = NO; column(0, 0) = NO;"
                    + "loses(0) = BAD; mends(0) = BAD; loads(0, 0) = BAD; moves(0, 0, 0) = BAD; share(0, 0) = NO;"
                    + "without(0, 0) = BAD; sees(0, 0) = BAD; sharing(0) = 1; sharing(1) = 0; sharing(2) = NONE;"
                    + "press(0, 0, 0) = NOT; most(0) = NONE; factor(0) = NONE; kern(0, 0) = NONE; kerns(0) = NONE;"
                    + "kerns(1) = NONE; key() = NONE; extra(1, 1) = NONE; odds(0, 0) = 0; odds(0, 1) = 1; odds(10, 0) = 0;"
                    + "odds(10, 1) = 1; spots(0) = 0; spots(1) = NONE; ask() = NONE; keep(0) = 0"));
        Sentences.sentence(1, "with the wind 0, 0", () ->
            Sentences.says(new PileShares(), "sum(3) = 0; sum(4) = 0; sum(0) = 0; sum(1) = 0; sum(2) = 0; winds(0, 0) = STATE"));
        Sentences.sentence(1, "an empty text buffer", () ->
            Sentences.says(new PileShares(), "count(5) = 0; clear() = 0; tells() = 0; type(0) = 1"));
        Sentences.sentence(1, "no recorded actions", () ->
            Sentences.says(new PileShares(), "count(6) = 0; undo() = STATE"));
        Sentences.sentence(1, "the unknown load 10", () -> {
            Sentences.says(new PileShares(), "count(3) = 10");
            // it is the load that is looked for, too
            Sentences.says(new PileShares(), "drives(0, 0, 1, 1); drives(1, 0, 1, 1); drives(0, 1, 1, 1); sees(0, 10);"
                    + "spots(0) = 1; forget(); sees(0, 11); spots(0) = 0");
        });
        Sentences.sentence(1, "no observations", () ->
            Sentences.says(new PileShares(), "count(4) = 0; forget() = 0; hunts(10) = 0"));
        Sentences.sentence(1, "no images", () ->
            Sentences.says(new PileShares(), "back(0) = STATE; back(1) = STATE"));
    }

    private static void drives() {
        Sentences.sentence(5, "BAD if an argument is out of range", () -> {
            String[] bad = {"-10, 0, 1, 1", "10, 0, 1, 1", "0, -10, 1, 1", "0, 10, 1, 1", "0, 0, 0, 1", "0, 0, 10, 1",
                "0, 0, 1, 0", "0, 0, 1, 100", "0, 0, -1, 1", "0, 0, 1, -1", "LOW, 0, 1, 1", "HIGH, 0, 1, 1", "0, LOW, 1, 1",
                "0, HIGH, 1, 1", "0, 0, LOW, 1", "0, 0, HIGH, 1", "0, 0, 1, LOW", "0, 0, 1, HIGH"};
            for (String args : bad) {
                says("", "drives(" + args + ") = BAD; count(0) = 0; count(6) = 0");
            }
            for (String args : new String[] {"-9, -9, 1, 1", "9, 9, 9, 99", "-9, 9, 1, 99", "9, -9, 9, 1"}) {
                says("", "drives(" + args + ") = 0; count(0) = 1; count(6) = 1");
            }
        });
        Sentences.sentence(5, "STATE if there is a pile at this place (also a lost one)", () ->
            says(SQUARE, "drives(3, -3, 1, 1) = STATE; loses(1) = 3; drives(3, -3, 1, 1) = STATE; count(0) = 4; count(6) = 1;"
                    + "pile(1, 3) = 10; pile(1, 4) = 0; drives(3, -2, 1, 1) = 4; drives(4, -3, 1, 1) = 5"));
        Sentences.sentence(5, "FULL if there are 8 piles.", () ->
            says(SQUARE, "drives(0, 0, 1, 1) = 4; drives(0, 1, 1, 1) = 5; drives(0, 2, 1, 1) = 6; drives(0, 3, 1, 1) = 7;"
                    + "drives(0, 4, 1, 1) = FULL; loses(7); drives(0, 4, 1, 1) = FULL; count(0) = 8; count(6) = 5; undo(); undo();"
                    + "drives(0, 4, 1, 1) = 7"));
        Sentences.sentence(5, "Adds an intact pile with the next number.", () -> {
            says("", "drives(-1, 2, 3, 4) = 0; pile(0, 0) = -1; pile(0, 1) = 2; pile(0, 2) = 3; pile(0, 3) = 4; pile(0, 4) = 1");
            // also where a lost pile has had that number
            says(SQUARE, "drives(0, 0, 1, 1) = 4; loses(4) = 4; undo(); undo(); drives(1, 1, 2, 2) = 4; pile(4, 4) = 1;"
                    + "count(1) = 5");
        });
    }

    private static void losesAndMends() {
        for (int promise = 6; promise <= 7; promise++) {
            String name = promise == 6 ? "loses" : "mends";
            Sentences.sentence(promise, "BAD if there is no such pile", () -> {
                says("", name + "(0) = BAD");
                for (String p : new String[] {"-1", "4", "8", "32", "35", "LOW", "HIGH"}) {
                    says(SQUARE, name + "(" + p + ") = BAD; count(1) = 4; count(6) = 0");
                }
            });
        }
        Sentences.sentence(6, "STATE if it is lost already.", () ->
            says(SQUARE, "loses(3) = 3; loses(3) = STATE; count(1) = 3; count(6) = 1; loses(0) = 2; loses(0) = STATE; count(6) = 2"));
        Sentences.sentence(7, "STATE if it is intact.", () ->
            says(SQUARE, "mends(0) = STATE; mends(3) = STATE; count(6) = 0; loses(3); mends(3) = 4; mends(3) = STATE; count(6) = 2"));
        Sentences.sentence(6, "Returns the number of intact piles then", () -> {
            says(SQUARE, "loses(0) = 3; loses(3) = 2; loses(1) = 1; loses(2) = 0; count(1) = 0; count(0) = 4");
            says(SQUARE, "drives(0, 0, 1, 1); drives(0, 1, 1, 1); drives(0, 2, 1, 1); drives(0, 3, 1, 1); loses(7) = 7;"
                    + "loses(0) = 6");
        });
        Sentences.sentence(7, "Returns the number of intact piles then", () -> {
            says(SQUARE, "loses(0); loses(3); loses(1); loses(2); mends(3) = 1; mends(0) = 2; mends(1) = 3; mends(2) = 4;"
                    + "pile(3, 4) = 1");
            says(SQUARE, "drives(0, 0, 1, 1); drives(0, 1, 1, 1); drives(0, 2, 1, 1); drives(0, 3, 1, 1); loses(7);"
                    + "mends(7) = 8");
        });
    }

    private static void loads() {
        Sentences.sentence(8, "BAD if there is no such column, or load is out of range", () -> {
            says(SQUARE, "loads(0, 1) = BAD");
            for (String args : new String[] {"2, 1", "-1, 1", "5, 1", "LOW, 1", "HIGH, 1", "0, -1", "0, 100", "0, LOW", "0, HIGH"}) {
                says(BUILT, "loads(" + args + ") = BAD; sum(0) = 47; count(6) = 0");
            }
            says(BUILT, "loads(0, 0) = 40; loads(0, 99) = 0; loads(1, 99) = 7; loads(1, 0) = 99; column(0, 2) = 99");
        });
        Sentences.sentence(8, "STATE if it has this load already.", () ->
            says("c9 9 0;c9 9 99;", "loads(0, 0) = STATE; loads(1, 99) = STATE; count(6) = 0; loads(0, 99) = 0;"
                    + "loads(0, 99) = STATE; count(6) = 1"));
        Sentences.sentence(8, "Returns the previous load", () ->
            says("c9 9 0;c9 9 5;", "loads(0, 1) = 0; loads(0, 2) = 1; loads(1, 99) = 5; loads(1, 98) = 99"));
    }

    private static void moves() {
        Sentences.sentence(9, "BAD if there is no such column or place", () -> {
            says(SQUARE, "moves(0, 1, 1) = BAD");
            String[] bad = {"2, 1, 1", "-1, 1, 1", "5, 1, 1", "LOW, 1, 1", "HIGH, 1, 1", "0, -10, 0", "0, 10, 0", "0, 0, -10",
                "0, 0, 10", "0, LOW, 0", "0, HIGH, 0", "0, 0, LOW", "0, 0, HIGH"};
            for (String args : bad) {
                says(BUILT, "moves(" + args + ") = BAD; column(0, 0) = 0; column(0, 1) = 0; count(6) = 0");
            }
            says(BUILT, "moves(1, -9, -9) = 1; moves(1, 9, 9) = 1; moves(1, -9, 9) = 1; moves(1, 9, -9) = 1;"
                    + "column(1, 0) = 9; column(1, 1) = -9; column(1, 2) = 7");
        });
        Sentences.sentence(9, "STATE if it is there already.", () ->
            says("c0 18 0;c9 9 99;", "moves(0, -9, 9) = STATE; moves(1, 0, 0) = STATE; count(6) = 0; moves(0, -9, 8) = 1;"
                    + "moves(0, -8, 8) = 1; moves(0, -8, 8) = STATE; count(6) = 2"));
        Sentences.sentence(9, "Moves a column to another place.", () ->
            // where a pile and where another column is
            says("p9 9 1 1;c0 0 5;c1 1 6;", "moves(0, 0, 0) = 1; moves(1, 0, 0) = 1; column(0, 0) = 0; column(1, 1) = 0"));
    }

    private static void winds() {
        Sentences.sentence(10, "BAD if an argument is out of range", () -> {
            for (String args : new String[] {"-100, 0", "100, 0", "0, -100", "0, 100", "LOW, 0", "HIGH, 0", "0, LOW", "0, HIGH"}) {
                says(BUILT, "winds(" + args + ") = BAD; sum(3) = 1; sum(4) = -1; count(6) = 0");
            }
            for (String args : new String[] {"-99, -99", "-99, 99", "99, -99", "99, 99"}) {
                says(BUILT, "winds(" + args + ") = 1; count(6) = 1");
            }
        });
        Sentences.sentence(10, "STATE if the wind is this already.", () -> {
            says("", "winds(0, 0) = STATE; count(6) = 0");
            says(BUILT, "winds(1, -1) = STATE; winds(1, 0) = 1; winds(1, 0) = STATE; winds(0, 0) = 1; winds(0, 0) = STATE;"
                    + "winds(99, 99) = 1; winds(99, 99) = STATE; count(6) = 3");
        });
    }

    private static void actions() {
        in("Successful calls of drives(), loses(), mends(), loads(), moves() and winds() are actions.", () -> {
            says(BUILT, "drives(0, 0, 1, 1); count(6) = 1; loses(0); count(6) = 2; mends(0); count(6) = 3; loads(0, 1);"
                    + "count(6) = 4; moves(0, 1, 1); count(6) = 5; winds(2, 2); count(6) = 6");
            says(BUILT, "drives(3, 3, 1, 1) = STATE; drives(0, 0, 0, 1) = BAD; loses(4) = BAD; mends(0) = STATE;"
                    + "mends(4) = BAD; loads(0, 40) = STATE; loads(2, 1) = BAD; moves(0, 0, 0) = STATE; moves(0, 0, 10) = BAD;"
                    + "winds(1, -1) = STATE; winds(100, 0) = BAD; count(6) = 0; undo() = STATE");
            // no other call is one
            says(BUILT, "type(59); clear(); hunts(5); sees(0, 1); forget(); keep(0); count(6) = 0; tells() = 0; count(6) = 0;"
                    + "undo() = STATE");
        });
        in("The latest 6 are recorded and can be undone", () -> {
            says("", "winds(1, 0); winds(2, 0); winds(3, 0); winds(4, 0); winds(5, 0); winds(6, 0); count(6) = 6;"
                    + "undo() = 5; undo() = 4; undo() = 3; undo() = 2; undo() = 1; undo() = 0; sum(3) = 0; undo() = STATE");
            // the first of seven and the first two of eight stay done
            says("", "winds(1, 0); winds(2, 0); winds(3, 0); winds(4, 0); winds(5, 0); winds(6, 0); winds(7, 0); count(6) = 6;"
                    + "undo() = 5; sum(3) = 6; undo() = 4; sum(3) = 5; undo() = 3; sum(3) = 4; undo() = 2; sum(3) = 3;"
                    + "undo() = 1; sum(3) = 2; undo() = 0; sum(3) = 1; undo() = STATE; sum(3) = 1");
            PileShares cap = new PileShares();
            for (int i = 1; i <= 60; i++) {
                Sentences.says(cap, "winds(" + i + ", 0) = 1; count(6) = " + Math.min(6, i));
            }
            Sentences.says(cap, "undo() = 5; undo() = 4; undo() = 3; undo() = 2; undo() = 1; undo() = 0; sum(3) = 54;"
                    + "undo() = STATE; winds(0, 0) = 1; undo() = 0; sum(3) = 54");
        });
        in("this restores piles, columns and the wind as they were before the action", () -> {
            says(BUILT, "drives(0, 0, 1, 1); undo() = 0; count(0) = 4; count(1) = 4; pile(4, 0) = NO; drives(0, 0, 2, 2) = 4");
            says(BUILT, "loses(3); undo() = 0; pile(3, 4) = 1; count(1) = 4");
            says(BUILT, "loses(3); mends(3); undo() = 1; pile(3, 4) = 0; count(1) = 3");
            says(BUILT, "loads(1, 0); undo() = 0; column(1, 2) = 7; column(0, 2) = 40");
            says(BUILT, "moves(1, -9, 9); undo() = 0; column(1, 0) = 1; column(1, 1) = 1");
            says(BUILT, "winds(-99, 99); undo() = 0; sum(3) = 1; sum(4) = -1");
            // an action after an undo takes the place of the undone one
            says(BUILT, "winds(5, 5); undo(); winds(6, 6); count(6) = 1; undo() = 0; sum(3) = 1; undo() = STATE");
        });
    }

    private static void undo() {
        Sentences.sentence(11, "STATE if none is recorded.", () -> {
            Sentences.says(new PileShares(), "undo() = STATE");
            says(BUILT, "undo() = STATE; count(0) = 4; winds(5, 5); undo() = 0; undo() = STATE; sum(3) = 1");
            says(BUILT, "keep(0); winds(5, 5); back(0); undo() = STATE; sum(3) = 1");
        });
        Sentences.sentence(11, "Returns the number of actions that are still recorded", () ->
            says(BUILT, "winds(5, 5); winds(6, 6); winds(7, 7); undo() = 2; undo() = 1; winds(8, 8); undo() = 1; undo() = 0"));
        Sentences.sentence(11, "Undoes the last recorded action, which is not recorded any more.", () ->
            says(BUILT, "winds(5, 5); loses(0); count(6) = 2; undo(); count(6) = 1; pile(0, 4) = 1; sum(3) = 5; undo();"
                    + "count(6) = 0; sum(3) = 1"));
    }

    private static void keep() {
        Sentences.sentence(31, "BAD if image is out of range.", () ->
            says(BUILT, "keep(-1) = BAD; keep(2) = BAD; keep(LOW) = BAD; keep(HIGH) = BAD; back(0) = STATE; back(1) = STATE;"
                    + "keep(0) = 4; keep(1) = 4"));
        Sentences.sentence(31, "Returns the number of piles", () -> {
            Sentences.says(new PileShares(), "keep(0) = 0; keep(1) = 0");
            says(SQUARE, "loses(0); keep(0) = 4; drives(0, 0, 1, 1); drives(0, 1, 1, 1); drives(0, 2, 1, 1); drives(0, 3, 1, 1);"
                    + "keep(0) = 8");
        });
        Sentences.sentence(31, "Keeps all piles (also which are lost), columns and the wind in an image", () ->
            says(BUILT, "loses(2); keep(1) = 4; count(6) = 1; mends(2); loses(0); drives(0, 0, 1, 1); loads(0, 1); moves(1, 9, 9);"
                    + "winds(9, 9); back(1) = 4; pile(2, 4) = 0; pile(0, 4) = 1; count(0) = 4; column(0, 2) = 40;"
                    + "column(1, 0) = 1; column(1, 1) = 1; sum(3) = 1; sum(4) = -1; back(0) = STATE"));
        Sentences.sentence(31, "in place of what it held", () ->
            says(BUILT, "keep(0); drives(0, 0, 5, 5); loses(1); winds(2, 2); keep(0) = 5; winds(3, 3); back(0) = 5; sum(3) = 2;"
                    + "pile(1, 4) = 0; undo() = STATE"));
        Sentences.sentence(31, "`image`: 0 or 1", () ->
            // the two hold different things
            says(BUILT, "keep(0); winds(7, 7); keep(1); winds(8, 8); back(0); sum(3) = 1; back(1); sum(3) = 7; back(0); sum(3) = 1"));
    }

    private static void back() {
        Sentences.sentence(32, "BAD if image is out of range", () ->
            says(BUILT, "keep(0); keep(1); winds(5, 5); back(-1) = BAD; back(2) = BAD; back(LOW) = BAD; back(HIGH) = BAD;"
                    + "sum(3) = 5; count(6) = 1"));
        Sentences.sentence(32, "STATE if the image is empty.", () -> {
            says(BUILT, "winds(5, 5); back(0) = STATE; back(1) = STATE; count(6) = 1; sum(3) = 5; keep(0); back(1) = STATE;"
                    + "count(6) = 1; back(0) = 4; back(1) = STATE");
            // an image of nothing is not an empty one
            says("", "keep(1) = 0; drives(0, 0, 1, 1); back(1) = 0; count(0) = 0; back(0) = STATE");
            says(BUILT, "keep(0); keep(1); tells() = 0; back(0) = STATE; back(1) = STATE; count(0) = 0");
        });
        Sentences.sentence(32, "Restores what an image holds, which keeps it.", () ->
            says(BUILT, "keep(0); loses(0); back(0) = 4; pile(0, 4) = 1; loses(1); loads(0, 1); back(0) = 4; pile(1, 4) = 1;"
                    + "column(0, 2) = 40; loses(2); winds(9, 9); drives(0, 0, 1, 1); back(0) = 4; count(1) = 4; sum(3) = 1"));
        Sentences.sentence(32, "No actions are recorded then.", () ->
            says(BUILT, "keep(0); winds(1, 0); winds(2, 0); winds(3, 0); winds(4, 0); winds(5, 0); winds(6, 0); winds(7, 0);"
                    + "back(0); count(6) = 0; undo() = STATE; winds(8, 0); count(6) = 1; undo() = 0; sum(3) = 1; sum(4) = -1"));
        Sentences.sentence(32, "Returns the number of piles then", () -> {
            says(SQUARE, "loses(0); loses(1); keep(0) = 4; drives(0, 0, 1, 1); back(0) = 4; count(0) = 4; count(1) = 2");
            says(SQUARE, "drives(0, 0, 1, 1); drives(0, 1, 1, 1); drives(0, 2, 1, 1); drives(0, 3, 1, 1); keep(0); undo(); undo();"
                    + "back(0) = 8; drives(0, 4, 1, 1) = FULL");
        });
    }

    private static void count() {
        Sentences.sentence(33, "BAD if what is not 0 to 6.", () -> {
            Sentences.says(new PileShares(), "count(-1) = BAD; count(7) = BAD; count(LOW) = BAD; count(HIGH) = BAD");
            Sentences.says(Scenes.busy(), "count(-1) = BAD; count(7) = BAD; count(LOW) = BAD; count(HIGH) = BAD");
        });
        Sentences.sentence(33, "0 for the piles, 1 for the intact piles, 2 for the columns, 3 for the unknown load h, 4 for the "
                + "observations, 5 for the characters in the text buffer, 6 for the recorded actions", () -> {
            Sentences.says(new PileShares(), "count(0) = 0; count(1) = 0; count(2) = 0; count(3) = 10; count(4) = 0; count(5) = 0;"
                    + "count(6) = 0");
            Sentences.says(Scenes.busy(), "count(0) = 5; count(1) = 3; count(2) = 2; count(3) = 20; count(4) = 3; count(5) = 10;"
                    + "count(6) = 6");
            Sentences.says(Scenes.full(), "count(0) = 8; count(1) = 7; count(2) = 5; count(3) = 99; count(4) = 6; count(5) = 160;"
                    + "count(6) = 6");
            Sentences.says(Scenes.lost(), "count(0) = 4; count(1) = 0; count(2) = 1; count(6) = 4");
        });
    }
}
