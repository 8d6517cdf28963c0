/** The sentences about texts that name a boundary: 'Texts' and the promises 2 to 4. */
public final class TextSentencesTest {
    private static final String EIGHT = "p0 0 1 1;p1 0 1 1;p2 0 1 1;p3 0 1 1;p4 0 1 1;p5 0 1 1;p6 0 1 1;p7 0 1 1;";
    private static final String FIVE = "c0 0 1;c1 0 1;c2 0 1;c3 0 1;c4 0 1;";
    private static final String FULL_STATE = "p6 6 1 10;p12 6 1 10;p6 12 1 10;p12 12 1 10;c9 9 40;w100 98;";

    private TextSentencesTest() { }

    public static void main(String[] args) {
        buffer();
        tokens();
        numbers();
        blanks();
        items();
        piles();
        columns();
        wind();
        errorPosition();
        type();
        clear();
        tells();
        tellsRefused();
        Sentences.end();
    }

    private static void in(String words, Runnable test) {
        Sentences.sentence(Sentences.DESCRIPTION, words, test);
    }

    private static int told(String text) {
        PileShares cap = new PileShares();
        Sentences.write(cap, text);
        return cap.tells();
    }

    private static String shown(String text) {
        StringBuilder shown = new StringBuilder("tells() of '");
        for (char letter : text.toCharArray()) {
            shown.append(letter >= 32 && letter < 127 ? String.valueOf(letter) : "<" + (int) letter + ">");
        }
        return shown.append("'").toString();
    }

    private static void items(int items, String text) {
        Sentences.due(shown(text), told(text), items);
    }

    private static void errorAt(int position, String text) {
        Sentences.due(shown(text), told(text), -10 - position);
    }

    /** The number between the two parts may be what is in the range, and nothing beside it. */
    private static void range(String before, int least, int greatest, String behind) {
        items(1, before + least + behind);
        items(1, before + greatest + behind);
        errorAt(before.length(), before + (greatest + 1) + behind);
        if (least > 0) {
            errorAt(before.length(), before + (least - 1) + behind);
        }
        errorAt(before.length(), before + "-1" + behind);
    }

    private static void buffer() {
        in("There is a text buffer with at most 160 characters.", () -> {
            items(1, " ".repeat(151) + "p0 0 1 1;");
            items(1, "p0 0 1 1" + " ".repeat(151) + ";");
            PileShares cap = new PileShares();
            Sentences.write(cap, "p0 0 1 1" + " ".repeat(152));
            // the semicolon would be the 161st
            Sentences.says(cap, "type(59) = FULL; count(5) = 160; tells() = -170");
        });
    }

    private static void tokens() {
        in("It consists of tokens: the letters p, c and w, the semicolon, and numbers.", () -> {
            items(1, "p1 2 3 4;");
            items(1, "c1 2 3;");
            items(1, "w1 2;");
            for (int code = 0; code < 256; code++) {
                boolean begins = code == 'p' || code == 'c' || code == 'w' || code == ' ';
                if (!begins) {
                    errorAt(0, (char) code + "1 2 3 4;");
                }
            }
        });
        in("any other character", () -> {
            for (int code = 0; code < 256; code++) {
                boolean known = code == ' ' || code == ';' || code >= '0' && code <= '9';
                if (!known) {
                    errorAt(1, "w" + (char) code + "1 1;");
                    errorAt(2, "w1" + (char) code + " 1;");
                    errorAt(4, "w1 1" + (char) code + ";");
                }
                if (code != ' ' && code != 'p' && code != 'c') {
                    errorAt(5, "w1 1;" + (char) code);
                }
            }
        });
    }

    private static void numbers() {
        in("A number is a run of digits, as long as possible", () -> {
            // 123 is one number, not 1 and 23
            errorAt(4, "w123;");
            errorAt(1, "p1111 1 1;");
            errorAt(3, "c1 111;");
            errorAt(3, "w1 2345;");
            PileShares cap = Sentences.cap("w19 198;c12 3 45;p12 3 4 56;");
            Sentences.says(cap, "sum(3) = -80; sum(4) = 99; column(0, 0) = 3; column(0, 1) = -6; column(0, 2) = 45;"
                    + "pile(0, 0) = 3; pile(0, 1) = -6; pile(0, 2) = 4; pile(0, 3) = 56");
        });
        in("it is at most 198", () -> {
            items(1, "w198 198;");
            errorAt(1, "w199 0;");
            errorAt(3, "w0 199;");
            errorAt(1, "w200 0;");
            errorAt(1, "w999 0;");
            errorAt(1, "w1000 0;");
        });
        in("has no leading zeros", () -> {
            items(1, "w0 0;");
            items(1, "w10 100;");
            errorAt(1, "w00 0;");
            errorAt(3, "w0 00;");
            errorAt(1, "w01 0;");
            errorAt(3, "w0 01;");
            errorAt(1, "w0198 0;");
            errorAt(5, "p1 1 01 1;");
            errorAt(7, "p1 1 1 01;");
            errorAt(5, "c1 1 00;");
        });
        in("a run of digits that is no number as described", () -> {
            errorAt(0, "199");
            errorAt(0, "00");
            errorAt(0, "7");
            errorAt(9, "p1 1 1 1 007;");
            // numbers that come round to 1 in 32 and in 64 bits
            errorAt(1, "w4294967297 1;");
            errorAt(3, "w1 18446744073709551617;");
            errorAt(1, "w" + "9".repeat(159));
            errorAt(1, "w" + "0".repeat(159));
        });
    }

    private static void blanks() {
        in("Blanks (32) may stand before, between and behind tokens, in any number; they are needed only between two numbers.",
                () -> {
            items(3, "p1 1 1 1;c1 1 1;w1 1;");
            items(3, " p 1  1   1    1     ;      c 1 1 1 ; w 1 1 ; ");
            items(0, " ");
            items(0, " ".repeat(160));
            items(1, "w1" + " ".repeat(156) + "1;");
            items(1, "w1 1;" + " ".repeat(155));
            // without the blank the two numbers are one
            errorAt(3, "w11;");
            errorAt(6, "p1 1 1;");
            errorAt(5, "p1 1 11;");
            // a blank ends a number
            errorAt(5, "w1 1 1;");
            for (int code : new int[] {0, 9, 10, 11, 12, 13, 31, 33, 133, 160, 255}) {
                errorAt(2, "w1" + (char) code + "1;");
            }
        });
    }

    private static void items() {
        in("A text is a sequence of items (also an empty one), each followed by a semicolon", () -> {
            items(0, "");
            items(1, "w1 1;");
            items(2, "w1 1;c1 1 1;");
            errorAt(0, ";");
            errorAt(5, "w1 1;;");
            errorAt(4, "w1 1");
            errorAt(4, "w1 1c1 1 1;");
            errorAt(12, "w1 1; c1 1 1");
        });
    }

    private static void piles() {
        in("p X Y K C: the next pile, at the place X - 9, Y - 9 (X and Y from 0 to 18)", () -> {
            range("p", 0, 18, " 1 1 1;");
            range("p1 ", 0, 18, " 1 1;");
            PileShares cap = Sentences.cap("p0 18 1 1;p18 0 1 1;");
            Sentences.says(cap, "pile(0, 0) = -9; pile(0, 1) = 9; pile(1, 0) = 9; pile(1, 1) = -9");
        });
        in("with the stiffness K and the capacity C", () -> {
            range("p1 1 ", 1, 9, " 1;");
            range("p1 1 1 ", 1, 99, ";");
            PileShares cap = Sentences.cap("p0 0 1 99;p0 1 9 1;");
            Sentences.says(cap, "pile(0, 2) = 1; pile(0, 3) = 99; pile(1, 2) = 9; pile(1, 3) = 1");
        });
        in("At most 8 times.", () -> {
            items(8, EIGHT);
            items(14, EIGHT + FIVE + "w1 1;");
            Sentences.says(Sentences.cap(EIGHT), "count(0) = 8; pile(7, 0) = -2");
        });
        in("a ninth p", () -> {
            errorAt(72, EIGHT + "p8 0 1 1;");
            errorAt(74, EIGHT + "  p");
            // the ninth p is the error, not what follows it
            errorAt(72, EIGHT + "p0 0 1 1;");
        });
        in("the Y of a pile with which it would be where a pile before it is", () -> {
            items(3, "p1 1 1 1;p1 2 1 1;p2 1 1 1;");
            errorAt(12, "p1 1 1 1;p1 1 1 1;");
            errorAt(23, "p1 1 1 1;p2 1 1 1;p 1  1 1 1;");
            errorAt(21, "p1 1 1 1;p2 1 1 1;p2 1 1 1;");
            // the Y comes before the K
            errorAt(12, "p1 1 1 1;p1 1 0 1;");
            // piles that stand already are no piles of the text
            PileShares cap = Sentences.cap("p1 1 1 1;");
            Sentences.write(cap, "p1 1 2 2;");
            Sentences.says(cap, "tells() = 1; pile(0, 2) = 2");
        });
    }

    private static void columns() {
        in("c X Y L: the next column, at the place X - 9, Y - 9, with the load L.", () -> {
            range("c", 0, 18, " 1 1;");
            range("c1 ", 0, 18, " 1;");
            range("c1 1 ", 0, 99, ";");
            PileShares cap = Sentences.cap("c0 18 0;c18 0 99;");
            Sentences.says(cap, "column(0, 0) = -9; column(0, 1) = 9; column(0, 2) = 0;"
                    + "column(1, 0) = 9; column(1, 1) = -9; column(1, 2) = 99");
        });
        in("At most 5 times.", () -> {
            items(5, FIVE);
            Sentences.says(Sentences.cap(FIVE), "count(2) = 5; column(4, 0) = -5");
        });
        in("a sixth c", () -> {
            errorAt(35, FIVE + "c5 0 1;");
            errorAt(36, FIVE + " c");
        });
        in("each at a place (where other columns and piles may be)", () -> {
            items(5, "c1 1 1;p1 1 1 1;c1 1 1;p2 2 1 1;c2 2 2;");
            errorAt(19, "c1 1 1;p1 1 1 1;p1 1 1 1;");
        });
    }

    private static void wind() {
        in("w A B: the wind is A - 99, B - 99 (A and B from 0 to 198).", () -> {
            range("w", 0, 198, " 1;");
            range("w1 ", 0, 198, ";");
            Sentences.says(Sentences.cap("w0 198;"), "sum(3) = -99; sum(4) = 99");
            Sentences.says(Sentences.cap("w198 0;"), "sum(3) = 99; sum(4) = -99");
        });
        in("At most once.", () -> {
            items(1, "w1 1;");
            items(3, "c1 1 1;w1 1;c1 1 1;");
        });
        in("a second w", () -> {
            errorAt(5, "w1 1;w1 1;");
            errorAt(13, "w9 99;c1 1 1;w");
            // a wind of 0, 0 was told too
            errorAt(7, "w99 99;w99 99;");
        });
    }

    private static void errorPosition() {
        in("the index, from 0, of the first character of the first token that cannot stand at its place", () -> {
            errorAt(0, "x");
            errorAt(159, " ".repeat(159) + "x");
            // the first one of several, at each place of each item
            String[] heads = {"p", "p1", "p1 1", "p1 1 1", "p1 1 1 1", "c", "c1", "c1 1", "c1 1 1", "w", "w1", "w1 1"};
            for (String head : heads) {
                for (String token : new String[] {"p", "c", "w", "x"}) {
                    errorAt(head.length(), head + token + "x;199");
                    errorAt(head.length() + 2, head + "  " + token + " x");
                }
                boolean whole = head.equals("p1 1 1 1") || head.equals("c1 1 1") || head.equals("w1 1");
                if (whole) {
                    errorAt(head.length() + 1, head + " 1;");
                } else {
                    errorAt(head.length(), head + ";;");
                }
            }
        });
        in("or the length of the text if it ends too early", () -> {
            String[] heads = {"p", "p1", "p1 1", "p1 1 1", "p1 1 1 1", "c", "c1", "c1 1", "c1 1 1", "w", "w1", "w1 1"};
            for (String head : heads) {
                errorAt(head.length(), head);
                errorAt(head.length() + 1, head + " ");
                errorAt(160, head + " ".repeat(160 - head.length()));
                errorAt(head.length() + 7, "c2 2 2;" + head);
            }
        });
        in("This includes a number out of its range", () -> {
            errorAt(1, "p19 1 1 1;");
            errorAt(3, "p1 19 1 1;");
            errorAt(5, "p1 1 10 1;");
            errorAt(7, "p1 1 1 100;");
            errorAt(5, "c1 1 100;");
            // too large for its place, though it is a number
            errorAt(1, "c198 1 1;");
            errorAt(7, "p1 1 1 198;");
        });
    }

    private static void type() {
        Sentences.sentence(2, "`letter`: its code, 0 to 255", () -> {
            PileShares cap = new PileShares();
            Sentences.says(cap, "type(0) = 1; type(255) = 2; type(1) = 3; type(254) = 4; count(5) = 4");
        });
        Sentences.sentence(2, "BAD if letter is out of range", () -> {
            PileShares cap = new PileShares();
            Sentences.says(cap, "type(-1) = BAD; type(256) = BAD; type(LOW) = BAD; type(HIGH) = BAD; type(368) = BAD;"
                    + "count(5) = 0; tells() = 0");
        });
        Sentences.sentence(2, "Returns the number of characters in the text buffer", () -> {
            PileShares cap = new PileShares();
            for (int n = 1; n <= 160; n++) {
                Sentences.due("type(32)", cap.type(32), n);
            }
        });
        Sentences.sentence(2, "FULL if there are 160.", () -> {
            PileShares cap = new PileShares();
            Sentences.write(cap, " ".repeat(159));
            Sentences.says(cap, "type(120) = 160; type(32) = FULL; type(0) = FULL; type(255) = FULL; count(5) = 160;"
                    + "type(-1) = BAD; type(256) = BAD; tells() = -169; clear() = 160; type(32) = 1");
        });
    }

    private static void clear() {
        Sentences.sentence(3, "Returns the number of characters that it had.", () -> {
            PileShares cap = new PileShares();
            Sentences.says(cap, "clear() = 0; type(59) = 1; clear() = 1; clear() = 0");
            Sentences.write(cap, ";".repeat(160));
            Sentences.says(cap, "clear() = 160; clear() = 0");
        });
        Sentences.sentence(3, "Empties the text buffer.", () -> {
            PileShares cap = Sentences.cap(FULL_STATE);
            Sentences.write(cap, "x1;");
            Sentences.says(cap, "winds(5, 5); clear() = 3; count(5) = 0; count(0) = 4; count(2) = 1; count(6) = 1;"
                    + "sum(3) = 5; tells() = 0; count(0) = 0");
            // what the buffer had is not read behind a shorter text
            for (String longer : new String[] {"w5 5;", "w5 55;", "w5 5 ;", "w5 5xx"}) {
                PileShares again = new PileShares();
                Sentences.write(again, longer);
                again.clear();
                Sentences.write(again, "w5 5");
                Sentences.says(again, "tells() = -14");
            }
        });
    }

    private static void tells() {
        Sentences.sentence(4, "Returns the number of items", () -> {
            items(0, "");
            items(0, "   ");
            items(1, "p0 0 1 1;");
            items(14, EIGHT + FIVE + "w1 1;");
        });
        Sentences.sentence(4, "piles (all intact)", () -> {
            PileShares cap = Sentences.cap(FULL_STATE);
            Sentences.says(cap, "loses(0); loses(3)");
            Sentences.write(cap, FULL_STATE);
            Sentences.says(cap, "tells() = 6; count(1) = 4; pile(0, 4) = 1; pile(3, 4) = 1");
        });
        Sentences.sentence(4, "the wind (0, 0 if the text does not tell it)", () -> {
            PileShares cap = Sentences.cap("w0 198;");
            Sentences.says(cap, "sum(3) = -99; sum(4) = 99; tells() = 0; sum(3) = 0; sum(4) = 0");
            cap.winds(7, 8);
            Sentences.write(cap, "c9 9 1;");
            Sentences.says(cap, "tells() = 1; sum(3) = 0; sum(4) = 0; sum(1) = 0; sum(2) = 0");
        });
        Sentences.sentence(4, "The unknown load is 10, there are no observations, no images and no recorded actions, and the "
                + "text buffer is empty then.", () -> {
            PileShares cap = Sentences.cap(FULL_STATE);
            Sentences.says(cap, "hunts(99); sees(0, 1); keep(0); keep(1); winds(1, 2); winds(3, 4)");
            Sentences.write(cap, "p6 6 1 10;");
            Sentences.says(cap, "tells() = 1; count(3) = 10; count(4) = 0; back(0) = STATE; back(1) = STATE; count(6) = 0;"
                    + "undo() = STATE; count(5) = 0; clear() = 0; tells() = 0");
        });
        Sentences.sentence(4, "Begins anew as the text says", () -> {
            PileShares cap = Sentences.cap(EIGHT + FIVE + "w1 1;");
            Sentences.says(cap, "tells() = 0; count(0) = 0; count(1) = 0; count(2) = 0; pile(0, 0) = NO; column(0, 0) = NO;"
                    + "sum(0) = 0; drives(0, 0, 1, 1) = 0");
        });
    }

    private static void tellsRefused() {
        Sentences.sentence(4, "-10 minus the error position if the text has an error", () -> {
            errorAt(0, "x");
            errorAt(1, "px");
            errorAt(160, "p" + " ".repeat(159));
        });
        Sentences.sentence(4, "(then nothing changes, and the text stays)", () -> {
            Scenes.unchanged("an error behind whole items", () -> {
                PileShares cap = Scenes.busy();
                cap.clear();
                Sentences.write(cap, "p1 1 1 1;c2 2 2;w3 3;x");
                return cap;
            }, "tells()", -31);
            Scenes.unchanged("an end too early", () -> {
                PileShares cap = Scenes.busy();
                cap.clear();
                Sentences.write(cap, "p1 1 1 1;w3 3");
                return cap;
            }, "tells()", -23);
            PileShares cap = Sentences.cap(FULL_STATE);
            Sentences.write(cap, "w3 3");
            Sentences.says(cap, "tells() = -14; count(5) = 4; type(59) = 5; tells() = 1; sum(3) = -96");
        });
    }
}
