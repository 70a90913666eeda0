import java.util.Locale;

/**
 * Each sentence of the document that names a bound of the text or of its reading, with a test of its own:
 * part 1 of the terms, and promises 1 to 4.
 */
public final class TextBoundsTest {
    private static final int NONE = LetterExchange.NONE;
    private static final int UNKNOWN = LetterExchange.UNKNOWN;
    private static final int OUTSIDE = LetterExchange.OUTSIDE;
    private static final int NOT = LetterExchange.NOT;
    private static final int FULL = LetterExchange.FULL;
    private static final String NOT_WELL = "n3;b0112;b1212;b2012;";

    private static final Check check = new Check("TextBoundsTest");

    public static void main(String[] args) {
        atFirst();
        textOfHundred();
        boundsOfN();
        lettersByN();
        onceAndFirst();
        boundsOfUAndV();
        iAndJUnlike();
        boundsOfWorth();
        numbersOfOneFigure();
        wordsOfOneLetter();
        blanksAnywhere();
        firstLetterThatHasOne();
        theEnd();
        theLeastFault();
        cannotStandThere();
        noSuchLetterInText();
        secondN();
        unlikePairs();
        emptyText();
        zeroButWhatIsTold();
        boundsOfWeights();
        leastWeights();
        notWell();
        feedBounds();
        emptyBehindLetters();
        allThereIs();
        elseAsItWas();
        placeOfFault();
        check.end();
    }

    private static void due(String what, long got, long want) {
        check.due(what, got, want);
    }

    private static void taken(String text) {
        LetterExchange x = new LetterExchange();
        due("letters of '" + text + "'", Check.tell(x, text), text.trim().substring(1).trim().charAt(0) - '0');
        due("fault of '" + text + "'", x.fault(), NONE);
    }

    private static void fault(String text, int number, int place) {
        LetterExchange x = new LetterExchange();
        due("letters of '" + text + "'", Check.tell(x, text), -10 - number);
        due("fault of '" + text + "'", x.fault(), place);
    }

    private static String form(String form, Object... parts) {
        return String.format(Locale.ROOT, form, parts);
    }

    private static void atFirst() {
        check.sentence("At first: 2 LETTERS, b at 0, 1 is 1, at 1, 0 is -1, all WORTH 1.");
        LetterExchange x = new LetterExchange();
        due("letters", x.told(0), 2);
        due("letter 1", x.letter(1, 0), 1);
        due("letter 2", x.letter(2, 0), UNKNOWN);
        check.same("the state", Check.state(x), Check.state(Check.told("n2;b0111;")));
        due("no text", x.told(1), 0);
        due("no fault", x.fault(), NONE);
        due("no book", x.told(7), 0);
        due("nothing to undo", x.undo(1), NOT);
        due("no image 0", x.goBack(0), NOT);
        due("no image 1", x.goBack(1), NOT);
        due("the seed", x.seed(1), 0);
        due("start goes there", x.exchange(0) + x.start(), 2);
        check.same("behind start", Check.state(x), Check.state(new LetterExchange()));
    }

    private static void textOfHundred() {
        check.sentence("All is told in a text (100 letters at most)");
        LetterExchange x = new LetterExchange();
        Check.feed(x, "n2;x05;" + " ".repeat(89) + "x07");
        due("the last of a hundred", x.feed(';'), 100);
        due("one more", x.feed('q'), FULL);
        due("it did not come", x.letters(), 2);
        due("the last clause", x.letter(0, 0), 7);
        fault("n2;" + " ".repeat(96) + "q", 1, 99);
        fault("n2;" + " ".repeat(96) + "x", 1, 100);
    }

    private static void boundsOfN() {
        check.sentence("N 2 .. 4");
        for (int n = 0; n <= 9; n++) {
            if (n >= 2 && n <= 4) taken("n" + n + ";");
            else fault("n" + n + ";", 2, 1);
        }
    }

    private static void lettersByN() {
        check.sentence("LETTERS 0 to N less 1");
        for (int n = 2; n <= 4; n++) {
            LetterExchange x = Check.told("n" + n + ";");
            due("letters", x.told(0), n);
            for (int i = -1; i <= n; i++) due("letter " + i, x.letter(i, 0), i >= 0 && i < n ? 1 : UNKNOWN);
        }
    }

    private static void onceAndFirst() {
        check.sentence("first of all, once)");
        fault("x01;n2;", 1, 0);
        fault("b0111;n2;", 1, 0);
        fault(";n2;", 1, 0);
        fault("n2;n2;", 3, 3);
        fault("n2;x01;n3;", 3, 7);
        taken("   n2;x01;");
    }

    private static void boundsOfUAndV() {
        check.sentence("U and V 0 .. 3, I and J unlike");
        for (int u = 0; u <= 9; u++) {
            for (int v = 0; v <= 9; v++) {
                String text = form("n3;b20%d%d;", u, v);
                if (u > 3) fault(text, 2, 6);
                else if (v > 3) fault(text, 2, 7);
                else if ((u == 0) != (v == 0)) fault(text, 4, 7);
                else {
                    LetterExchange x = Check.told(text);
                    due("table 2 0 of " + text, x.table(2, 0), 1000 + u);
                    due("table 0 2 of " + text, x.table(0, 2), 1000 - v);
                }
            }
        }
    }

    private static void iAndJUnlike() {
        check.sentence("I and J unlike");
        for (int n = 2; n <= 4; n++) {
            for (int i = 0; i <= 9; i++) {
                for (int j = 0; j <= 9; j++) {
                    String text = form("n%d;b%d%d11;", n, i, j);
                    if (i >= n) fault(text, 2, 4);
                    else if (j >= n) fault(text, 2, 5);
                    else if (i == j) fault(text, 4, 5);
                    else taken(text);
                }
            }
        }
    }

    private static void boundsOfWorth() {
        check.sentence("(LETTER I is WORTH W, 1 .. 9; 1 at first)");
        for (int w = 0; w <= 9; w++) {
            String text = "n2;x1" + w + ";";
            if (w == 0) {
                fault(text, 2, 5);
            } else {
                LetterExchange x = Check.told(text);
                due("worth of " + text, x.letter(1, 0), w);
                due("below of " + text, x.letter(1, 1), 1);
                due("the other of " + text, x.letter(0, 0), 1);
            }
        }
    }

    private static void numbersOfOneFigure() {
        check.sentence("NUMBERS have one figure");
        fault("n02;", 2, 1);
        fault("n22;", 1, 2);
        fault("n2;x010;", 1, 6);
        fault("n2;x01 0;", 1, 7);
        fault("n2;b01011;", 4, 7);
        fault("n2;b01111;", 1, 8);
    }

    private static void wordsOfOneLetter() {
        check.sentence("a word is one letter");
        fault("nn2;", 1, 1);
        fault("n2;bb0111;", 1, 4);
        fault("n2;xx01;", 1, 4);
        fault("n2;xb01;", 1, 4);
        fault("n2;x01;by0111;", 1, 8);
        fault("N2;", 1, 0);
        fault("n2;B0111;", 1, 3);
        fault("n2;X01;", 1, 3);
    }

    private static void blanksAnywhere() {
        check.sentence("blanks (32) may stand anywhere");
        String text = "n3;b0212;x25;";
        for (int at = 0; at <= text.length(); at++) {
            LetterExchange x = new LetterExchange();
            due("a blank at " + at, Check.tell(x, text.substring(0, at) + "  " + text.substring(at)), 3);
            check.same("a blank at " + at, Check.state(x), Check.state(Check.told(text)));
        }
        for (int other : new int[] {0, 9, 10, 11, 12, 13, 31, 33, 95, 127, 128, 133, 160, 255}) {
            for (int at = 0; at <= text.length(); at++) {
                fault(text.substring(0, at) + (char) other + text.substring(at), 1, at);
            }
        }
    }

    private static void firstLetterThatHasOne() {
        check.sentence("FAULTS, at the first letter that has one");
        fault("n2;b00q", 4, 5);
        fault("n2;b29", 2, 4);
        fault("n2;qn2;", 1, 3);
        fault("n2;x0 0;n3;q", 2, 6);
        fault("n2;b0110q;n", 4, 7);
        fault("n9q", 2, 1);
        fault("qn1", 1, 0);
    }

    private static void theEnd() {
        check.sentence("(the end at the text's length)");
        String text = "n2;b0111;x01;";
        for (int length = 0; length < text.length(); length++) {
            String cut = text.substring(0, length);
            boolean whole = length > 0 && cut.endsWith(";");
            if (whole) taken(cut);
            else fault(cut, 1, length);
            if (!whole) fault(cut + "   ", 1, length + 3);
        }
    }

    private static void theLeastFault() {
        check.sentence("of these the least");
        for (int v = 4; v <= 9; v++) fault("n2;b010" + v + ";", 2, 7);
        fault("n2;b01n", 1, 6);
        fault("n2n", 1, 2);
        fault("nn", 1, 1);
        fault("n2;xn", 1, 4);
    }

    /** Every letter there is at every kind of place. */
    private static void cannotStandThere() {
        check.sentence("1 it cannot stand there (another word ahead of 'n', too).");
        for (int sign = 0; sign <= 255; sign++) {
            char c = (char) sign;
            boolean figure = c >= '0' && c <= '9';
            if (c == 'n' || c == ' ') fault("" + c, 1, 1);
            else fault("" + c, 1, 0);
            if (c >= '2' && c <= '4' || c == ' ') fault("n" + c, 1, 2);
            else fault("n" + c, figure ? 2 : 1, 1);
            if (c == ';') taken("n2" + c);
            else fault("n2" + c, 1, c == ' ' ? 3 : 2);
            if (c == ' ') taken("n2;" + c);
            else if (c == 'b' || c == 'x') fault("n2;" + c, 1, 4);
            else fault("n2;" + c, c == 'n' ? 3 : 1, 3);
            if (c == '0' || c == '1' || c == ' ') fault("n2;b" + c, 1, 5);
            else fault("n2;b" + c, figure ? 2 : 1, 4);
            if (c == ';') taken("n2;x07" + c);
            else fault("n2;x07" + c, 1, c == ' ' ? 7 : 6);
            if (c == ';') taken("n2;b0111" + c);
            else fault("n2;b0111" + c, 1, c == ' ' ? 9 : 8);
        }
    }

    private static void noSuchLetterInText() {
        check.sentence("2 a NUMBER out of its bounds; a LETTER that there is not (at it).");
        for (int n = 2; n <= 4; n++) {
            fault(form("n%d;b%d011;", n, n), 2, 4);
            fault(form("n%d;b0%d11;", n, n), 2, 5);
            fault(form("n%d;x%d1;", n, n), 2, 4);
            taken(form("n%d;b0%d11;", n, n - 1));
            taken(form("n%d;b%d011;", n, n - 1));
            taken(form("n%d;x%d1;", n, n - 1));
        }
    }

    private static void secondN() {
        check.sentence("3 a second 'n' (at the word).");
        fault("n2;n2;", 3, 3);
        fault("n2;n", 3, 3);
        fault("n2; n9", 3, 4);
        fault("n4;b0111;x02;n4;", 3, 13);
    }

    private static void unlikePairs() {
        check.sentence("4 J is I (at it); one of U, V is 0 and the other is not (at V).");
        fault("n2;b00", 4, 5);
        fault("n2;b1 1 1 1;", 4, 6);
        fault("n4;b3311;", 4, 5);
        fault("n2;b0101;", 4, 7);
        fault("n2;b0130", 4, 7);
        taken("n2;b0100;");
    }

    private static void emptyText() {
        check.sentence("(An empty text, too, has the FAULT 1.)");
        LetterExchange x = new LetterExchange();
        due("letters", x.letters(), -11);
        due("fault", x.fault(), 0);
        fault("  ", 1, 2);
        Check.tell(x, "n3;");
        due("behind a text", x.letters(), -11);
        due("its fault", x.fault(), 0);
        due("letters as they were", x.told(0), 3);
    }

    private static void zeroButWhatIsTold() {
        check.sentence("(0 at I, I; all 0 but what is told)");
        LetterExchange x = new LetterExchange();
        Check.tell(x, "n4;b0133;b1222;b2311;b0300;b1200;b3013;");
        int[][] table = {{0, 3, 0, -3}, {-3, 0, 0, 0}, {0, 0, 0, 1}, {1, 0, -1, 0}};
        for (int i = 0; i < 4; i++) {
            for (int j = 0; j < 4; j++) due("table " + i + " " + j, x.table(i, j), 1000 + table[i][j]);
        }
        Check.tell(x, "n4;");
        for (int i = 0; i < 4; i++) {
            for (int j = 0; j < 4; j++) due("nothing told, " + i + " " + j, x.table(i, j), 1000);
        }
    }

    private static void boundsOfWeights() {
        check.sentence("there are WEIGHTS 1 .. 9, one for each LETTER");
        weights("n4;b0121;b1221;b2321;", 1, 2, 4, 8);
        weights("n4;b0131;b1221;b2332;", 1, 3, 6, 9);
        weights("n3;b0131;b1231;", 1, 3, 9);
        weights("n3;b0113;b1213;", 9, 3, 1);
        notWell("n4;b0131;b1221;b2321;");
        notWell("n4;b0112;b1213;b2312;");
        notWell("n4;b0131;b1231;b2332;");
        notWell("n3;b0112;b1212;b2012;");
        weights("n3;b0111;b1212;b2021;", 2, 2, 1);
    }

    private static void leastWeights() {
        check.sentence("the least ones are meant (by LETTER 0, 1 ..)");
        weights("n2;", 1, 1);
        weights("n2;b0133;", 1, 1);
        weights("n2;b0123;", 3, 2);
        weights("n2;b1023;", 2, 3);
        weights("n4;b0223;b1331;", 3, 1, 2, 3);
        weights("n3;b0123;b1232;", 3, 2, 3);
        LetterExchange x = Check.exchanged("n3;b0123;b1232;", "102");
        for (int i = 0; i < 3; i++) due("weight behind exchanges " + i, x.letter(i, 2), i == 1 ? 2 : 3);
    }

    private static void weights(String text, int... due) {
        LetterExchange x = Check.told(text);
        due("well: " + text, x.told(2), 1);
        for (int i = 0; i < due.length; i++) due("weight " + i + " of " + text, x.letter(i, 2), due[i]);
    }

    private static void notWell(String text) {
        LetterExchange x = Check.told(text);
        due("not well: " + text, x.told(2), 0);
        for (int i = 0; i < x.told(0); i++) due("weight " + i + " of " + text, x.letter(i, 2), NONE);
    }

    private static void notWell() {
        check.sentence("A text with a TABLE that is not WELL is taken, but nothing can be EXCHANGED then.");
        LetterExchange x = new LetterExchange();
        due("taken", Check.tell(x, NOT_WELL), 3);
        due("no fault", x.fault(), NONE);
        due("its table", x.table(2, 0), 1001);
        due("its table", x.table(0, 2), 998);
        int[] before = Check.state(x);
        for (int k = 0; k < 3; k++) {
            due("exchange", x.exchange(k), NOT);
            due("what it would be worth above", x.letter(k, 5), NONE);
            due("what it would be worth below", x.letter(k, 6), NONE);
        }
        due("drift", x.drift(20), 0);
        check.same("as it was", Check.state(x), before);
        due("a text that is well again", Check.tell(x, "n3;"), 3);
        due("exchange", x.exchange(2), 2);
    }

    private static void feedBounds() {
        check.sentence("A letter (0 .. 255) comes behind THE TEXT: how many it has. OUTSIDE, FULL (100).");
        LetterExchange x = new LetterExchange();
        due("-1", x.feed(-1), OUTSIDE);
        due("256", x.feed(256), OUTSIDE);
        due("least", x.feed(Integer.MIN_VALUE), OUTSIDE);
        due("most", x.feed(Integer.MAX_VALUE), OUTSIDE);
        due("none came", x.told(1), 0);
        for (int i = 1; i <= 100; i++) due("feed", x.feed(i == 1 ? 0 : 155 + i), i);
        for (int i = 0; i < 3; i++) due("full", x.feed(0), FULL);
        due("a hundred", x.told(1), 100);
    }

    private static void emptyBehindLetters() {
        check.sentence("(it is empty then, with a FAULT, too)");
        LetterExchange x = new LetterExchange();
        Check.tell(x, "n2;");
        due("taken", x.told(1), 0);
        Check.tell(x, "n2");
        due("with a fault", x.told(1), 0);
        due("the next is the first", x.feed('n'), 1);
        due("no more of the old one", Check.tell(x, "4;"), 4);
        Check.feed(x, "q".repeat(100));
        x.letters();
        due("behind a full one", x.feed('n'), 1);
    }

    private static void allThereIs() {
        check.sentence("becomes all there is (no BOOK; IMAGES, what could be undone are gone; THE SEED stays)");
        LetterExchange x = Check.told("n2;b0111;x05;");
        x.seed(41);
        x.keep(0);
        x.keep(1);
        x.exchange(0);
        x.drift(2);
        int seed = x.seed(0);
        x.seed(seed);
        x.write(0, 3);
        due("taken", Check.tell(x, "n2;b0111;x05;"), 2);
        check.same("the state", Check.state(x), Check.state(Check.told("n2;b0111;x05;")));
        due("no exchanges", x.told(3), 0);
        due("no book", x.told(7), 0);
        due("none wrong", x.told(8), NONE);
        due("nothing can be undone", x.told(9), 0);
        due("undo", x.undo(1), NOT);
        due("image 0", x.goBack(0), NOT);
        due("image 1", x.goBack(1), NOT);
        due("the seed", x.seed(0), seed);
        Check.tell(x, "n3;x08;");
        x.exchange(0);
        due("start knows the new text", x.start(), 1);
        due("its worth", x.letter(0, 0), 8);
    }

    private static void elseAsItWas() {
        check.sentence("-10 less the number of its FAULT (all else is as it was)");
        String[] faulty = {"n2;x09;;", "n2;x09;x00;", "n2;x09;n3;", "n2;x09;b00"};
        for (int number = 1; number <= 4; number++) {
            LetterExchange x = Check.told("n3;b0111;b1221;x24;");
            x.seed(9);
            x.exchange(2);
            x.keep(1);
            x.drift(3);
            x.write(1, 8);
            int[] before = Check.state(x);
            due("letters", Check.tell(x, faulty[number - 1]), -10 - number);
            check.same("the state", Check.state(x), before);
            due("exchanges", x.told(3), 4);
            due("the book", x.told(7), 1);
            due("what is wrong", x.told(8), 0);
            due("what can be undone", x.told(9), 3);
            due("stands", x.told(4), 20);
            due("undo", x.undo(3), 1);
            due("start", x.start(), 1);
            due("worth as told", x.letter(2, 0), 4);
            due("image 1", x.goBack(1), 1);
            due("the seed of the image", x.seed(0), 9);
            due("image 0", x.goBack(0), NOT);
        }
    }

    private static void placeOfFault() {
        check.sentence("The place (from 0 on) of the letter that has the FAULT of the latest letters(); NONE.");
        LetterExchange x = new LetterExchange();
        due("ahead of all", x.fault(), NONE);
        x.feed('q');
        due("ahead of letters()", x.fault(), NONE);
        x.letters();
        due("the first letter", x.fault(), 0);
        Check.tell(x, "n2;" + " ".repeat(96) + "q");
        due("the last letter there can be", x.fault(), 99);
        Check.tell(x, "n2;" + " ".repeat(96) + "b");
        due("the end of a full text", x.fault(), 100);
        x.feed('n');
        x.exchange(0);
        x.start();
        due("still the latest", x.fault(), 100);
        Check.tell(x, "2;");
        due("none again", x.fault(), NONE);
    }
}
