/**
 * Each promise of the document by calls whose answers were mostly found by hand. Not by hand: the texts at
 * the bounds of promise 10, which a search with the Model found, and FAR of the four letters in a star (6),
 * which was taken from the program, the Model agreeing.
 */
public final class PromisesTest {
    private static final int NONE = LetterExchange.NONE;
    private static final int UNKNOWN = LetterExchange.UNKNOWN;
    private static final int OUTSIDE = LetterExchange.OUTSIDE;
    private static final int NOT = LetterExchange.NOT;
    private static final int FULL = LetterExchange.FULL;
    private static final int LEAST = Integer.MIN_VALUE;
    private static final int MOST = Integer.MAX_VALUE;
    private static final String NOT_WELL = "n3;b0112;b1212;b2012;";

    private static Check check;

    public static void main(String[] args) {
        check = new Check("PromisesTest");
        constants();
        promise1();
        promise2();
        promise3Faults();
        promise3Taken();
        promise3Refused();
        promise4();
        promise5();
        promise6();
        promise7();
        promise7Refused();
        promise8();
        promise9();
        promise10();
        promise10Refused();
        promise11();
        promise12();
        promise12Refused();
        promise13();
        promise14();
        promise15();
        promise16();
        promise17();
        openStands();
        standsFollowDeeds();
        promise18();
        promise19();
        promise20();
        promise21();
        promise22();
        check.end();
    }

    private static void due(String what, long got, long want) {
        check.due(what, got, want);
    }

    private static void constants() {
        due("NONE", NONE, -1);
        due("UNKNOWN", UNKNOWN, -1000000001);
        due("OUTSIDE", OUTSIDE, -1000000002);
        due("NOT", NOT, -1000000003);
        due("FULL", FULL, -1000000004);
    }

    private static void promise1() {
        LetterExchange x = new LetterExchange();
        int[] told = {2, 0, 1, 0, 5, 5, 2, 0, NONE, 0};
        for (int what = 0; what < told.length; what++) due("1: told " + what, x.told(what), told[what]);
        isA2(x, "1");
        due("1: fault", x.fault(), NONE);
        due("1: seed", x.seed(3), 0);
        due("1: goBack 0", x.goBack(0), NOT);
        due("1: goBack 1", x.goBack(1), NOT);
        due("1: undo", x.undo(1), NOT);
        due("1: start", x.start(), 0);
        isA2(x, "1, behind start");
    }

    private static void isA2(LetterExchange x, String at) {
        due(at + ": table 0 0", x.table(0, 0), 1000);
        due(at + ": table 0 1", x.table(0, 1), 1001);
        due(at + ": table 1 0", x.table(1, 0), 999);
        due(at + ": table 1 1", x.table(1, 1), 1000);
        for (int i = 0; i < 2; i++) {
            due(at + ": worth above", x.letter(i, 0), 1);
            due(at + ": worth below", x.letter(i, 1), 1);
            for (int k = 0; k < 2; k++) {
                due(at + ": D", x.row(i, 0, k), i == k ? 999 : 1000);
                due(at + ": C", x.row(i, 1, k), i == k ? 1001 : 1000);
                due(at + ": G", x.row(i, 2, k), i == k ? 1001 : 1000);
            }
        }
    }

    private static void promise2() {
        LetterExchange x = new LetterExchange();
        due("2: feed 0", x.feed(0), 1);
        due("2: feed 255", x.feed(255), 2);
        due("2: feed -1", x.feed(-1), OUTSIDE);
        due("2: feed 256", x.feed(256), OUTSIDE);
        due("2: feed least", x.feed(LEAST), OUTSIDE);
        due("2: told 1", x.told(1), 2);
        for (int i = 3; i <= 100; i++) due("2: feed", x.feed(32), i);
        due("2: feed when full", x.feed(32), FULL);
        due("2: outside when full", x.feed(256), OUTSIDE);
        due("2: told 1 when full", x.told(1), 100);
        due("2: letters", x.letters(), -11);
        due("2: told 1 behind letters", x.told(1), 0);
        due("2: feed behind letters", x.feed(32), 1);
    }

    private static void promise3Faults() {
        fault("", 1, 0);
        fault("   ", 1, 3);
        fault("q", 1, 0);
        fault(" q", 1, 1);
        fault(";", 1, 0);
        fault("2", 1, 0);
        fault("N2;", 1, 0);
        fault("b0111;", 1, 0);
        fault("x01;n2;", 1, 0);
        fault("n", 1, 1);
        fault("nn", 1, 1);
        fault("n;", 1, 1);
        fault("n0;", 2, 1);
        fault("n1;", 2, 1);
        fault("n5;", 2, 1);
        fault("n9", 2, 1);
        fault("n2", 1, 2);
        fault("n 2 ", 1, 4);
        fault("n22;", 1, 2);
        fault("n2n2;", 1, 2);
        fault("n2;n2;", 3, 3);
        fault("n2;n", 3, 3);
        fault("n2; n", 3, 4);
        fault("n2;;", 1, 3);
        fault("n2;q", 1, 3);
        fault("n2;\t", 1, 3);
        fault("n2;b", 1, 4);
        fault("n2;b;", 1, 4);
        fault("n2;bx", 1, 4);
        fault("n2;b2", 2, 4);
        fault("n4;b4", 2, 4);
        fault("n2;b0", 1, 5);
        fault("n2;b0n", 1, 5);
        fault("n2;b02", 2, 5);
        fault("n2;b00", 4, 5);
        fault("n2;b1 1", 4, 6);
        fault("n2;b01", 1, 6);
        fault("n2;b014", 2, 6);
        fault("n2;b01-", 1, 6);
        fault("n2;b011", 1, 7);
        fault("n2;b0110", 4, 7);
        fault("n2;b0101", 4, 7);
        fault("n2;b0104", 2, 7);
        fault("n2;b0114", 2, 7);
        fault("n2;b011;", 1, 7);
        fault("n2;b0111", 1, 8);
        fault("n2;b01111", 1, 8);
        fault("n2;b0111 ", 1, 9);
        fault("n2;x", 1, 4);
        fault("n2;x2", 2, 4);
        fault("n2;xx", 1, 4);
        fault("n2;x0", 1, 5);
        fault("n2;x00", 2, 5);
        fault("n2;x0;", 1, 5);
        fault("n2;x05", 1, 6);
        fault("n2;x055", 1, 6);
        fault("n2;x05;b00", 4, 9);
        fault("n2;b0133;n3;", 3, 9);
    }

    private static void fault(String text, int number, int place) {
        LetterExchange x = new LetterExchange();
        due("3: letters of '" + text + "'", Check.tell(x, text), -10 - number);
        due("4: fault of '" + text + "'", x.fault(), place);
        due("3: text behind '" + text + "'", x.told(1), 0);
        isA2(x, "3, behind '" + text + "'");
    }

    private static void promise3Taken() {
        LetterExchange x = new LetterExchange();
        x.seed(77);
        x.exchange(0);
        x.keep(0);
        x.exchange(1);
        x.write(0, 5);
        due("3: taken", Check.tell(x, "  n 3;b2 0 3 1 ; b2112;b2100;x2 7;x0 9;x23; "), 3);
        due("3: no fault", x.fault(), NONE);
        due("3: no text", x.told(1), 0);
        due("3: letters", x.told(0), 3);
        due("3: no exchanges", x.told(3), 0);
        due("3: no book", x.told(7), 0);
        due("3: nothing wrong", x.told(8), NONE);
        due("3: nothing to undo", x.told(9), 0);
        due("3: no undo", x.undo(1), NOT);
        due("3: no image", x.goBack(0), NOT);
        due("3: the seed stays", x.seed(1), 77);
        int[][] table = {{0, 0, -1}, {0, 0, 0}, {3, 0, 0}};
        for (int i = 0; i < 3; i++) {
            for (int j = 0; j < 3; j++) {
                due("3: table " + i + j, x.table(i, j), table[i][j] + 1000);
                due("3: D", x.row(i, 0, j), i == j ? 999 : 1000);
                due("3: C", x.row(i, 1, j), i == j ? 1001 : 1000);
                due("3: G", x.row(i, 2, j), i == j ? 1001 : 1000);
            }
        }
        due("3: worth told", x.letter(0, 0), 9);
        due("3: worth not told", x.letter(1, 0), 1);
        due("3: worth told twice", x.letter(2, 0), 3);
        due("3: two letters again", Check.tell(x, "n2;"), 2);
        due("3: the third is gone", x.letter(2, 0), UNKNOWN);
        due("3: not well is taken", Check.tell(x, NOT_WELL), 3);
    }

    private static void promise3Refused() {
        LetterExchange x = Check.told("n3;b0111;x24;");
        x.exchange(2);
        x.keep(1);
        x.exchange(0);
        x.exchange(1);
        x.write(1, 7);
        due("3: refused", Check.tell(x, "n2;b0122;x09;q"), -11);
        due("3: fault", x.fault(), 13);
        due("3: letters as they were", x.told(0), 3);
        due("3: exchanges as they were", x.told(3), 3);
        due("3: the book as it was", x.told(7), 1);
        due("3: deeds as they were", x.told(9), 2);
        due("3: the table as it was", x.table(0, 1), 1001);
        due("3: worth as it was", x.letter(2, 1), 2);
        due("3: start as it was", x.start(), 3);
        due("3: worth behind start", x.letter(2, 0), 4);
        due("3: the image as it was", x.goBack(1), 1);
        due("3: exchanges of the image", x.told(3), 1);
    }

    private static void promise4() {
        LetterExchange x = new LetterExchange();
        due("4: at first", x.fault(), NONE);
        x.feed('q');
        due("4: ahead of letters", x.fault(), NONE);
        x.letters();
        due("4: place", x.fault(), 0);
        x.feed('n');
        due("4: still the latest", x.fault(), 0);
        x.letters();
        due("4: the end", x.fault(), 1);
        Check.tell(x, "n2;");
        due("4: none again", x.fault(), NONE);
    }

    private static void promise5() {
        LetterExchange x = Check.told("n4;b0111;b1221;b2311;");
        int[] told = {4, 0, 1, 0, 105, 28, 7, 0, NONE, 0};
        for (int what = 0; what < told.length; what++) due("5: told " + what, x.told(what), told[what]);
        due("5: told -1", x.told(-1), OUTSIDE);
        due("5: told 10", x.told(10), OUTSIDE);
        due("5: told least", x.told(LEAST), OUTSIDE);
        due("5: told most", x.told(MOST), OUTSIDE);
        x.exchange(1);
        x.exchange(9);
        x.exchange(2);
        due("5: exchanges", x.told(3), 2);
        due("5: deeds", x.told(9), 2);
        due("5: stands", x.told(4), 105);
        stands("n2;", 4, 4, 2);
        stands("n2;b0112;", 6, 6, 3);
        stands("n2;b0131;", 8, 8, 4);
        stands("n3;", 8, 6, 3);
        stands("n3;b0111;b1211;", 14, 9, 3);
        stands("n3;b0111;b1211;b2011;", 14, 9, 4);
        stands("n4;b0111;b0211;b0311;", 50, 16, 6);
        open("n2;b0122;");
        open("n2;b0133;");
        open("n3;b0111;b1211;b0211;");
        open("n3;b0122;b1222;b2022;");
        open("n3;b0111;b1213;");
        open(NOT_WELL);
    }

    private static void stands(String text, int stands, int letters, int far) {
        LetterExchange x = Check.told(text);
        due("5: well: " + text, x.told(2), 1);
        due("5: stands of " + text, x.told(4), stands);
        due("5: letters of " + text, x.told(5), letters);
        due("5: far of " + text, x.told(6), far);
    }

    private static void open(String text) {
        LetterExchange x = Check.told(text);
        for (int what = 4; what <= 6; what++) due("5: open: " + text, x.told(what), NONE);
        due("5: well: " + text, x.told(2), text.equals(NOT_WELL) ? 0 : 1);
    }

    private static void promise6() {
        LetterExchange x = Check.told("n3;b0123;b2111;b0213;");
        int[][] table = {{0, 2, 1}, {-3, 0, -1}, {-3, 1, 0}};
        for (int i = 0; i < 3; i++) {
            for (int j = 0; j < 3; j++) due("6: table " + i + j, x.table(i, j), table[i][j] + 1000);
        }
        due("6: -1 0", x.table(-1, 0), UNKNOWN);
        due("6: 0 -1", x.table(0, -1), UNKNOWN);
        due("6: 3 0", x.table(3, 0), UNKNOWN);
        due("6: 0 3", x.table(0, 3), UNKNOWN);
        due("6: most", x.table(MOST, LEAST), UNKNOWN);
    }

    private static void promise7() {
        LetterExchange x = Check.told("n4;b0113;b2311;b2111;x06;x13;x22;");
        // Exchanged: 0: (1 + 3 * 3 * 3) / 6. 1: (6 * 2 + 1) / 3. 2: (1 + 3 * 1) / 2. 3: (2 + 1) / 1.
        int[][] due = {
            {6, 1, 3, 2, 0, 14, 3},
            {3, 1, 1, 5, 1, 13, 3},
            {2, 1, 1, 10, 2, 2, 1},
            {1, 1, 1, 4, 3, 3, 1},
        };
        for (int i = 0; i < 4; i++) {
            for (int what = 0; what < 7; what++) due("7: letter " + i + " " + what, x.letter(i, what), due[i][what]);
            due("7: outside below", x.letter(i, -1), OUTSIDE);
            due("7: outside above", x.letter(i, 7), OUTSIDE);
        }
        due("7: unknown", x.letter(4, 0), UNKNOWN);
        due("7: unknown below", x.letter(-1, 0), UNKNOWN);
        due("7: unknown first", x.letter(4, 7), UNKNOWN);
        LetterExchange y = Check.told("n2;x06;");
        due("7: 2 by 6 above", y.letter(0, 5), 1);
        due("7: 2 by 6 below", y.letter(0, 6), 3);
        y.exchange(0);
        due("7: above", y.letter(0, 0), 1);
        due("7: below", y.letter(0, 1), 3);
        due("7: back above", y.letter(0, 5), 6);
        due("7: back below", y.letter(0, 6), 1);
        weights("n3;b0113;b1213;", 9, 3, 1);
        weights("n3;b0131;b1231;", 1, 3, 9);
        weights("n4;b0112;b2331;", 2, 1, 1, 3);
        weights("n4;", 1, 1, 1, 1);
        weights("n4;b0113;b1213;b2313;", NONE, NONE, NONE, NONE);
        weights(NOT_WELL, NONE, NONE, NONE);
    }

    private static void weights(String text, int... due) {
        LetterExchange x = Check.told(text);
        due("7: well: " + text, x.told(2), due[0] == NONE ? 0 : 1);
        for (int i = 0; i < due.length; i++) due("7: weight " + i + " of " + text, x.letter(i, 2), due[i]);
    }

    private static void promise7Refused() {
        LetterExchange x = Check.told(NOT_WELL);
        due("7: not well above", x.letter(0, 5), NONE);
        due("7: not well below", x.letter(0, 6), NONE);
        LetterExchange y = Check.told("n2;b0133;");
        for (int i = 0; i < 4; i++) y.exchange(i % 2);
        due("7: worth 0", y.letter(0, 0), 365);
        due("7: worth 1", y.letter(1, 0), 5403014);
        due("7: too great above", y.letter(0, 5), NONE);
        due("7: too great below", y.letter(0, 6), NONE);
        due("7: the way back", y.letter(1, 5), 9);
        LetterExchange z = Check.told("n3;b2033;b1233;");
        z.exchange(2);
        z.exchange(1);
        due("7: beyond 99", z.letter(0, 5), NONE);
        due("7: asking changes nothing", z.told(3), 2);
        due("7: nor the table", z.table(2, 0), 1024);
    }

    private static void promise8() {
        LetterExchange x = Check.told("n2;b0113;");
        x.exchange(0);
        rows(x, new int[][] {{1, 0}, {0, -1}}, new int[][] {{-1, 0}, {1, 1}}, new int[][] {{-1, 3}, {0, 1}});
        x.exchange(1);
        rows(x, new int[][] {{1, 0}, {1, 1}}, new int[][] {{2, 3}, {-1, -1}}, new int[][] {{-1, 3}, {-1, 2}});
        x.exchange(1);
        // C of 1 is below 0 now, so G goes by b itself.
        rows(x, new int[][] {{1, 0}, {0, -1}}, new int[][] {{-1, 0}, {1, 1}}, new int[][] {{-1, 3}, {0, 1}});
        due("8: unknown", x.row(2, 0, 0), UNKNOWN);
        due("8: unknown below", x.row(-1, 0, 0), UNKNOWN);
        due("8: unknown first", x.row(2, 3, 2), UNKNOWN);
        due("8: which 3", x.row(0, 3, 0), OUTSIDE);
        due("8: which -1", x.row(0, -1, 0), OUTSIDE);
        due("8: k 2", x.row(0, 0, 2), OUTSIDE);
        due("8: k -1", x.row(0, 0, -1), OUTSIDE);
        due("8: k most", x.row(0, 2, MOST), OUTSIDE);
    }

    private static void rows(LetterExchange x, int[][]... due) {
        for (int which = 0; which < due.length; which++) {
            for (int i = 0; i < due[which].length; i++) {
                for (int k = 0; k < due[which][i].length; k++) {
                    due("8: row " + i + " " + which + " " + k, x.row(i, which, k), due[which][i][k] + 1000);
                }
            }
        }
    }

    private static void promise9() {
        due("9: 4", Check.told("n2;").byTurns(0, 1), 4);
        due("9: 5", Check.told("n2;b0111;").byTurns(1, 0), 5);
        due("9: 6", Check.told("n2;b0112;").byTurns(0, 1), 6);
        due("9: 8", Check.told("n2;b1013;").byTurns(0, 1), 8);
        due("9: too many", Check.told("n2;b0122;").byTurns(0, 1), NONE);
        due("9: beyond 99", Check.told("n2;b0133;").byTurns(1, 0), NONE);
        due("9: not well", Check.told(NOT_WELL).byTurns(0, 1), NONE);
        LetterExchange x = Check.told("n3;b0111;b1212;");
        due("9: one twice", x.byTurns(1, 1), UNKNOWN);
        due("9: -1", x.byTurns(-1, 1), UNKNOWN);
        due("9: 3", x.byTurns(0, 3), UNKNOWN);
        due("9: both", x.byTurns(7, 7), UNKNOWN);
        due("9: nothing is changed", x.told(3), 0);
        due("9: nor the rows", x.row(0, 0, 0), 999);
        due("9: not well, one twice", Check.told(NOT_WELL).byTurns(0, 0), UNKNOWN);
    }

    private static void promise10() {
        LetterExchange x = new LetterExchange();
        // By turns: (5 + 1) / 3, (2 + 1) / 5, (3/5 + 1) / 2, (4/5 + 1) / (3/5), (3 + 1) / (4/5).
        Check.tell(x, "n2;b0111;x03;x15;");
        due("10: place", x.exchange(0), 1);
        worth(x, 0, 2, 1);
        due("10: place", x.exchange(1), 1);
        worth(x, 1, 3, 5);
        due("10: place", x.exchange(0), 0);
        worth(x, 0, 4, 5);
        due("10: place", x.exchange(1), 0);
        worth(x, 1, 3, 1);
        due("10: place", x.exchange(0), 1);
        worth(x, 0, 5, 1);
        due("10: exchanges", x.told(3), 5);
        due("10: unknown", x.exchange(2), UNKNOWN);
        due("10: unknown below", x.exchange(-1), UNKNOWN);
        due("10: unknown least", x.exchange(LEAST), UNKNOWN);
        due("10: refused aside", x.told(3), 5);
        LetterExchange y = Check.told("n3;b0111;b1211;");
        due("10: place", y.exchange(1), 2);
        int[][] table = {{0, -1, 1}, {1, 0, -1}, {-1, 1, 0}};
        for (int i = 0; i < 3; i++) {
            for (int j = 0; j < 3; j++) due("10: table " + i + j, y.table(i, j), table[i][j] + 1000);
        }
        due("10: twice", y.exchange(1), 1);
        due("10: as it was 0 1", y.table(0, 1), 1001);
        due("10: as it was 0 2", y.table(0, 2), 1000);
        due("10: as it was 2 1", y.table(2, 1), 999);
        due("10: exchanges", y.told(3), 2);
    }

    private static void worth(LetterExchange x, int i, int above, int below) {
        due("10: above of " + i, x.letter(i, 0), above);
        due("10: below of " + i, x.letter(i, 1), below);
    }

    private static void promise10Refused() {
        LetterExchange x = Check.told(NOT_WELL);
        due("10: not well", x.exchange(0), NOT);
        due("10: not well, unknown", x.exchange(3), UNKNOWN);
        due("10: no exchange", x.told(3), 0);
        due("10: no deed", x.told(9), 0);
        due("10: the table stays", x.table(0, 1), 1001);
        // Each of these is refused for one reason alone.
        refused("worth", "n2;b0133;", "1010", 1);
        refused("table", "n3;b2033;b1233;", "21", 0);
        refused("D", "n2;b0133;x02;x19;", "10101", 0);
        refused("C", "n3;b0122;b0233;x02;", "02101", 2);
        refused("G", "n3;b0233;b1212;x02;", "020", 1);
        // At the bounds: 100 comes, or 99; a number of a WORTH is a little above 1000000000, or not.
        refused("table 100", "n4;b2033;b2122;b1322;", "1210", 3);
        refused("C 100", "n4;b0132;b2022;b0311;b2333;", "20301", 2);
        refused("G 100", "n3;b1022;b2022;x24;", "210101", 2);
        refused("above 1001404928", "n4;b0131;b1333;", "3101", 3);
        refused("below 1073741824", "n3;b0233;b2122;x28;", "20", 1);
        taken("table 99", "n3;b1033;b2033;b1211;", "201");
        taken("D 99", "n4;b2022;b0322;b2322;x02;x35;", "3033112102223");
        taken("C 99", "n3;b0132;b0232;b2111;", "0120");
        taken("G 99", "n3;b2022;b2132;x22;", "21210");
        taken("above 994266126", "n3;b0113;b2022;x15;", "020");
        taken("below 1000000000", "n3;b0133;b2033;x14;x25;", "1202");
        Check.tell(x, "n2;b0111;");
        due("10: a lesser text behind what was beyond 99", x.exchange(0), 1);
    }

    private static void taken(String why, String text, String path) {
        LetterExchange x = Check.told(text);
        for (int i = 0; i < path.length(); i++) {
            check.holds("10: " + why + ": " + path.charAt(i), x.exchange(path.charAt(i) - '0') >= 0);
        }
        due("10: " + why + ": exchanges", x.told(3), path.length());
    }

    private static void refused(String why, String text, String path, int k) {
        LetterExchange x = Check.told(text);
        for (int i = 0; i < path.length(); i++) {
            check.holds("10: " + why + ": on the way", x.exchange(path.charAt(i) - '0') >= 0);
        }
        int above = x.letter(k, 0);
        due("10: " + why + ": what it would be worth", x.letter(k, 5), NONE);
        due("10: " + why + ": refused", x.exchange(k), NOT);
        due("10: " + why + ": exchanges", x.told(3), path.length());
        due("10: " + why + ": deeds", x.told(9), path.length());
        due("10: " + why + ": worth", x.letter(k, 0), above);
        check.holds("10: " + why + ": the way back", x.exchange(path.charAt(path.length() - 1) - '0') >= 0);
        due("10: " + why + ": a lesser text", Check.tell(x, "n2;b0111;"), 2);
        due("10: " + why + ": exchanged again", x.exchange(0), 1);
    }

    private static void promise11() {
        LetterExchange x = Check.told("n2;b0111;x07;");
        due("11: none", x.start(), 0);
        x.exchange(0);
        x.exchange(1);
        x.write(0, 19900);
        x.seed(5);
        due("11: exchanges there were", x.start(), 2);
        due("11: none now", x.told(3), 0);
        due("11: the worth", x.letter(0, 0), 7);
        due("11: the table", x.table(0, 1), 1001);
        due("11: D", x.row(0, 0, 0), 999);
        due("11: C", x.row(1, 1, 0), 1000);
        due("11: G", x.row(0, 2, 0), 1001);
        due("11: a deed", x.told(9), 4);
        due("11: the book stays", x.told(7), 1);
        due("11: the seed stays", x.seed(5), 5);
        due("11: undone", x.undo(1), 2);
        due("11: D undone", x.row(0, 0, 0), 1001);
        due("11: not well", Check.told(NOT_WELL).start(), 0);
    }

    private static void promise12() {
        // From 0 the seed becomes 12345, 1406932606, 654583775, 1449466924, 229283573:
        // by 65536: 0, 21468, 9988, 22117, 3498.
        LetterExchange x = Check.told("n3;b0111;b1211;");
        due("12: drift", x.drift(5), 5);
        due("12: the seed", x.seed(0), 229283573);
        LetterExchange y = Check.told("n3;b0111;b1211;");
        int[] drawn = {0, 21468 % 3, 9988 % 3, 22117 % 3, 3498 % 3};
        for (int k : drawn) y.exchange(k);
        alike("12", x, y);
        due("12: deeds", x.told(9), 5);
        due("12: on", x.drift(20), 25);
        due("12: 20 deeds kept", x.told(9), 20);
        due("12: 0", x.drift(0), OUTSIDE);
        due("12: 21", x.drift(21), OUTSIDE);
        due("12: least", x.drift(LEAST), OUTSIDE);
        due("12: no draw", x.told(3), 25);
        due("12: since start", x.start() + x.drift(1), 26);
        LetterExchange z = new LetterExchange();
        z.seed(MOST);
        z.drift(1);
        due("12: the greatest seed", z.seed(0), (MOST * 1103515245L + 12345L) % 2147483648L);
    }

    private static void promise12Refused() {
        LetterExchange x = Check.told(NOT_WELL);
        due("12: not well", x.drift(3), 0);
        due("12: the seed is drawn", x.seed(0), 654583775);
        due("12: each time is a deed", x.told(9), 3);
        LetterExchange y = Check.told("n2;b0133;");
        for (int i = 0; i < 4; i++) y.exchange(i % 2);
        due("12: 0 is drawn, and refused", y.drift(1), 4);
        due("12: a deed, too", y.told(9), 5);
        due("12: undone", y.undo(1), 4);
        due("12: and one more", y.undo(1), 3);
    }

    private static void alike(String at, LetterExchange x, LetterExchange y) {
        int n = x.told(0);
        due(at + ": letters", n, y.told(0));
        due(at + ": exchanges", x.told(3), y.told(3));
        for (int i = 0; i < n; i++) {
            due(at + ": above", x.letter(i, 0), y.letter(i, 0));
            due(at + ": below", x.letter(i, 1), y.letter(i, 1));
            for (int k = 0; k < n; k++) {
                due(at + ": table", x.table(i, k), y.table(i, k));
                for (int which = 0; which < 3; which++) due(at + ": row", x.row(i, which, k), y.row(i, which, k));
            }
        }
    }

    private static void promise13() {
        LetterExchange x = Check.told("n3;b0112;b1211;x03;");
        LetterExchange y = Check.told("n3;b0112;b1211;x03;");
        due("13: nothing", x.undo(1), NOT);
        x.exchange(1);
        y.exchange(1);
        x.exchange(0);
        y.exchange(0);
        x.start();
        x.exchange(2);
        due("13: not so many", x.undo(5), NOT);
        due("13: 0", x.undo(0), OUTSIDE);
        due("13: 21", x.undo(21), OUTSIDE);
        due("13: -1", x.undo(-1), OUTSIDE);
        due("13: nothing changed", x.told(9), 4);
        due("13: two", x.undo(2), 2);
        alike("13", x, y);
        due("13: two are left", x.told(9), 2);
        due("13: stands, too", x.stand(0, 0), 0);
        due("13: row of a stand", x.standRow(0, 2, 0), 1001);
        due("13: two more", x.undo(2), 0);
        alike("13: as at first", x, Check.told("n3;b0112;b1211;x03;"));
        due("13: no more", x.undo(1), NOT);
        x.seed(9);
        x.drift(20);
        int seed = x.seed(9);
        x.seed(seed);
        for (int i = 0; i < 7; i++) x.exchange(i % 3);
        due("13: 20 are kept", x.told(9), 20);
        due("13: all of them", x.undo(20), 7);
        due("13: the seed stays", x.seed(0), seed);
        due("13: the oldest are gone", x.undo(1), NOT);
        LetterExchange z = Check.told("n3;b0112;b1211;x03;");
        z.seed(9);
        z.drift(7);
        alike("13: behind seven", x, z);
        x.write(0, 0);
        x.exchange(0);
        x.write(0, 1);
        x.undo(1);
        due("13: the book stays", x.told(7), 2);
    }

    /** Two letters that do not hang on one another: 0 and 1 as told; 1: 0 exchanged; 2: 1; 3: both. */
    private static void promise14() {
        LetterExchange x = Check.told("n2;");
        int[][] due = {{0, NONE, NONE}, {1, 0, 0}, {1, 0, 1}, {2, 1, 0}};
        for (int s = 0; s < 4; s++) {
            for (int what = 0; what < 3; what++) due("14: stand " + s + " " + what, x.stand(s, what), due[s][what]);
            due("14: what 3", x.stand(s, 3), OUTSIDE);
            due("14: what -1", x.stand(s, -1), OUTSIDE);
        }
        due("14: stand 4", x.stand(4, 0), UNKNOWN);
        due("14: stand -1", x.stand(-1, 0), UNKNOWN);
        due("14: most", x.stand(MOST, 0), UNKNOWN);
        due("14: unknown first", x.stand(4, 3), UNKNOWN);
        // Behind an exchange all is numbered from there on.
        x.exchange(0);
        due("14: stand 0 again", x.stand(0, 1), NONE);
        due("14: its row", x.standRow(0, 1, 0), 1001);
        due("14: stand 3", x.stand(3, 0), 2);
    }

    private static void promise15() {
        LetterExchange x = Check.told("n2;");
        int[][] due = {{1, 2}, {3, 0}, {3, 0}, {1, 2}};
        for (int s = 0; s < 4; s++) {
            for (int k = 0; k < 2; k++) due("15: next " + s + " " + k, x.next(s, k), due[s][k]);
            due("15: k 2", x.next(s, 2), UNKNOWN);
            due("15: k -1", x.next(s, -1), UNKNOWN);
        }
        due("15: stand 4", x.next(4, 0), UNKNOWN);
        due("15: stand -1", x.next(-1, 0), UNKNOWN);
        // From the stand with (0, -1) and (1, 0) on.
        x.exchange(0);
        due("15: new numbers", x.next(0, 0), 1);
        due("15: new numbers", x.next(0, 1), 2);
        due("15: new numbers", x.next(1, 0), 0);
        due("15: new numbers", x.next(1, 1), 3);
        due("15: new numbers", x.next(2, 0), 0);
        due("15: new numbers", x.next(2, 1), 3);
    }

    private static void promise16() {
        LetterExchange x = Check.told("n3;");
        int[] due = {1, 3, 3, 1, 0};
        for (int steps = 0; steps < 5; steps++) due("16: away " + steps, x.away(steps), due[steps]);
        due("16: -1", x.away(-1), 0);
        due("16: least", x.away(LEAST), 0);
        due("16: most", x.away(MOST), 0);
    }

    private static void promise17() {
        LetterExchange x = Check.told("n2;");
        int[][][] due = {{{-1, 0}, {0, -1}}, {{0, -1}, {1, 0}}, {{-1, 0}, {0, 1}}, {{0, 1}, {1, 0}}};
        for (int s = 0; s < 4; s++) {
            for (int k = 0; k < 2; k++) {
                for (int number = 0; number < 2; number++) {
                    due("17: " + s + k + number, x.standRow(s, k, number), due[s][k][number] + 1000);
                }
            }
        }
        due("17: number 2", x.standRow(3, 1, 2), OUTSIDE);
        due("17: number -1", x.standRow(3, 1, -1), OUTSIDE);
        due("17: k 2", x.standRow(3, 2, 0), UNKNOWN);
        due("17: k -1", x.standRow(3, -1, 0), UNKNOWN);
        due("17: stand 4", x.standRow(4, 0, 0), UNKNOWN);
        due("17: stand -1", x.standRow(-1, 0, 0), UNKNOWN);
        due("17: unknown first", x.standRow(4, 0, 2), UNKNOWN);
    }

    private static void openStands() {
        for (String text : new String[] {"n2;b0122;", NOT_WELL, "n3;b0111;b1211;b0211;"}) {
            LetterExchange x = Check.told(text);
            due("14: open", x.stand(0, 0), UNKNOWN);
            due("14: open, unknown first", x.stand(0, 9), UNKNOWN);
            due("15: open", x.next(0, 0), UNKNOWN);
            due("16: open", x.away(0), NONE);
            due("16: open", x.away(-1), NONE);
            due("17: open", x.standRow(0, 0, 0), UNKNOWN);
            Check.tell(x, "n2;");
            due("14: no more open", x.stand(0, 0), 0);
            Check.tell(x, text);
            due("14: open again", x.stand(0, 0), UNKNOWN);
        }
    }

    /** STAND 0 is always what is so now, asked ahead of each deed and behind it. */
    private static void standsFollowDeeds() {
        LetterExchange x = Check.told("n2;");
        due("17: as told", x.standRow(0, 0, 0), 999);
        x.keep(0);
        x.exchange(0);
        due("17: behind exchange", x.standRow(0, 0, 0), 1000);
        x.undo(1);
        due("17: behind undo", x.standRow(0, 0, 0), 999);
        x.drift(1);
        due("17: behind drift", x.standRow(0, 0, 0), 1000);
        x.start();
        due("17: behind start", x.standRow(0, 0, 0), 999);
        x.exchange(0);
        due("17: behind exchange", x.standRow(0, 0, 0), 1000);
        x.goBack(0);
        due("17: behind goBack", x.standRow(0, 0, 0), 999);
        Check.tell(x, "n3;b0111;");
        due("17: behind letters", x.standRow(0, 2, 2), 999);
    }

    private static void promise18() {
        LetterExchange x = new LetterExchange();
        // D of 0 is -1, 0: 99 times 200 and 100. D of 1 is 0, -1: 100 times 200 and 99.
        due("18: write", x.write(0, 19900), 1);
        due("18: write", x.write(1, 20099), 2);
        due("18: none wrong", x.told(8), NONE);
        x.exchange(1);
        due("18: wrong", x.told(8), 1);
        due("18: right again", x.exchange(1) * 0 + x.told(8), NONE);
        x.exchange(0);
        due("18: wrong", x.told(8), 0);
        due("18: unknown", x.write(2, 0), UNKNOWN);
        due("18: unknown below", x.write(-1, 0), UNKNOWN);
        for (int i = 3; i <= 20; i++) due("18: write", x.write(0, i % 2 == 0 ? LEAST : MOST), i);
        due("18: full", x.write(0, 0), FULL);
        due("18: unknown first", x.write(2, 0), UNKNOWN);
        due("18: entries", x.told(7), 20);
        LetterExchange y = Check.told("n4;");
        y.exchange(3);
        due("18: four figures", y.write(3, 100 * 8000000 + 100 * 40000 + 100 * 200 + 101), 1);
        due("18: four figures", y.write(0, 99 * 8000000 + 100 * 40000 + 100 * 200 + 100), 2);
        due("18: right", y.told(8), NONE);
        y.write(1, -5);
        due("18: wrong", y.told(8), 2);
    }

    private static void promise19() {
        LetterExchange x = new LetterExchange();
        due("19: none", x.tear(), 0);
        x.write(0, 1);
        x.write(1, 2);
        due("19: two", x.tear(), 2);
        due("19: none now", x.told(7), 0);
        due("19: none wrong", x.told(8), NONE);
        due("19: none", x.tear(), 0);
        due("19: first again", x.write(0, 1), 1);
    }

    private static void promise20() {
        LetterExchange x = new LetterExchange();
        due("20: first", x.seed(7), 0);
        due("20: -1", x.seed(-1), OUTSIDE);
        due("20: least", x.seed(LEAST), OUTSIDE);
        due("20: most", x.seed(MOST), 7);
        due("20: 0", x.seed(0), MOST);
        due("20: 0 again", x.seed(0), 0);
    }

    private static void promise21() {
        LetterExchange x = new LetterExchange();
        due("21: 2", x.keep(2), UNKNOWN);
        due("21: -1", x.keep(-1), UNKNOWN);
        x.exchange(0);
        due("21: not kept", x.told(9), 1);
        due("21: keep", x.keep(1), 1);
        due("21: nothing can be undone", x.told(9), 0);
        due("21: undo", x.undo(1), NOT);
        due("21: exchanges stay", x.told(3), 1);
        due("21: the other is not kept", x.goBack(0), NOT);
    }

    private static void promise22() {
        LetterExchange x = Check.told("n3;b0111;b1212;x14;");
        LetterExchange y = Check.told("n3;b0111;b1212;x14;");
        x.seed(31);
        for (int k = 0; k < 3; k++) {
            x.exchange(k);
            y.exchange(k);
        }
        due("22: not kept", x.goBack(0), NOT);
        due("22: 2", x.goBack(2), UNKNOWN);
        due("22: -1", x.goBack(-1), UNKNOWN);
        due("22: nothing changed", x.told(9), 3);
        x.keep(0);
        x.write(2, 3);
        x.drift(9);
        x.keep(1);
        x.start();
        due("22: back", x.goBack(0), 1);
        alike("22", x, y);
        due("22: the seed, too", x.seed(31), 31);
        due("22: nothing can be undone", x.told(9), 0);
        due("22: the book stays", x.told(7), 1);
        due("22: stands from here", x.standRow(0, 0, 0), x.row(ranked(x, 0), 0, 0));
        due("22: the other", x.goBack(1), 1);
        due("22: its exchanges", x.told(3), 12);
        due("22: again", x.goBack(0), 1);
        due("22: the text is the same", x.start(), 3);
        due("22: as told", x.letter(1, 0), 4);
        x.undo(1);
        alike("22: start undone", x, y);
    }

    private static int ranked(LetterExchange x, int place) {
        for (int i = 0; i < x.told(0); i++) {
            if (x.letter(i, 4) == place) return i;
        }
        return NONE;
    }
}
