import java.util.Arrays;
import java.util.List;
import java.util.Random;

/**
 * Each sentence of the document that names a bound of an EXCHANGE, with a test of its own: part 2 of the terms,
 * and promises 5 to 8 and 10. The texts and ways to the bounds were found by a search; that they lead there, and
 * that nothing else is in the way, is asked of the Model each time.
 */
public final class ExchangeBoundsTest {
    private static final int NONE = LetterExchange.NONE;
    private static final int UNKNOWN = LetterExchange.UNKNOWN;
    private static final int OUTSIDE = LetterExchange.OUTSIDE;
    private static final int NOT = LetterExchange.NOT;
    private static final int LEAST = Integer.MIN_VALUE;
    private static final int MOST = Integer.MAX_VALUE;
    private static final int TABLE = -1;
    private static final int D = 0;
    private static final int C = 1;
    private static final int G = 2;
    private static final String NOT_WELL = "n3;b0112;b1212;b2012;";

    private static final Check check = new Check("ExchangeBoundsTest");

    public static void main(String[] args) {
        twiceExchanged();
        lowestTerms();
        noneToBeMultiplied();
        aboveThousandMillion();
        letterByLetter();
        oneByOne();
        lowestTermsEachTime();
        tableBySigns();
        greaterNumberByNumber();
        signsBothAboveOrBelow();
        degreesBySign();
        aheadOfIt();
        beyondNinetyNine();
        rankedByRows();
        likeRowsByNumber();
        toldBounds();
        refusedAside();
        tableBounds();
        letterBounds();
        rowBounds();
        exchangeBounds();
        check.end();
    }

    private static void due(String what, long got, long want) {
        check.due(what, got, want);
    }

    private static Model model(String text, String path) {
        Model model = new Model();
        for (char sign : text.toCharArray()) model.call("feed", sign);
        check.holds("the Model takes " + text, model.call("letters") > 0);
        for (char k : path.toCharArray()) check.holds("the Model goes " + path, model.call("exchange", k - '0') >= 0);
        return model;
    }

    /** It is refused, for this one reason; and nothing is changed by it. */
    private static void refused(String reason, String text, String path, int k) {
        String run = text + " " + path + " " + k;
        check.holds("refused for " + reason + " alone: " + run + ": " + model(text, path).reasons(k),
                model(text, path).reasons(k).equals(List.of(reason)));
        LetterExchange x = Check.exchanged(text, path);
        int[] before = Check.state(x);
        due("what it would be worth above, " + run, x.letter(k, 5), NONE);
        due("what it would be worth below, " + run, x.letter(k, 6), NONE);
        due("exchange, " + run, x.exchange(k), NOT);
        check.same("as it was, " + run, Check.state(x), before);
        due("exchanges, " + run, x.told(3), path.length());
        due("what can be undone, " + run, x.told(9), Math.min(path.length(), 20));
    }

    /** It is EXCHANGED, as the Model says. */
    private static LetterExchange taken(String text, String path, int k) {
        String run = text + " " + path + " " + k;
        Model model = model(text, path);
        LetterExchange x = Check.exchanged(text, path);
        due("above, " + run, x.letter(k, 5), model.call("letter", k, 5));
        due("below, " + run, x.letter(k, 6), model.call("letter", k, 6));
        due("exchange, " + run, x.exchange(k), model.call("exchange", k));
        due("worth above, " + run, x.letter(k, 0), model.call("letter", k, 0));
        due("worth below, " + run, x.letter(k, 1), model.call("letter", k, 1));
        return x;
    }

    private static void twiceExchanged() {
        check.sentence("twice exchanged, the same letter, all is as it was.");
        Random random = new Random(6);
        for (int run = 0; run < 400; run++) {
            int n = 2 + random.nextInt(3);
            LetterExchange x = new LetterExchange();
            StringBuilder text = new StringBuilder("n" + n + ";");
            for (int i = 0; i < n; i++) {
                for (int j = 0; j < i; j++) {
                    int b = random.nextInt(3);
                    text.append("b").append(i).append(j).append(b).append(b).append(';');
                }
                text.append('x').append(i).append(1 + random.nextInt(9)).append(';');
            }
            Check.tell(x, text.toString());
            for (int step = 0; step < 5; step++) {
                int k = random.nextInt(n);
                int[] before = Check.state(x);
                if (x.exchange(k) < 0) continue;
                check.holds("the way back, " + text, x.exchange(k) >= 0);
                check.same("as it was, " + text, Check.state(x), before);
                x.exchange(k);
            }
        }
    }

    private static void lowestTerms() {
        check.sentence("FRACTIONS are told above and below, in lowest terms, below 1 at least.");
        LetterExchange x = Check.told("n2;x06;x12;");
        due("2 by 6 to come, above", x.letter(0, 5), 1);
        due("2 by 6 to come, below", x.letter(0, 6), 3);
        x.exchange(0);
        due("2 by 6, above", x.letter(0, 0), 1);
        due("2 by 6, below", x.letter(0, 1), 3);
        due("2 by 2, above", x.letter(1, 5), 1);
        due("2 by 2, below", x.letter(1, 6), 1);
        due("a whole number, below", x.letter(1, 1), 1);
        // (6 * 4 + 1) / 8, and then (25/8 + 1) / 6 = 33/48.
        LetterExchange y = Check.told("n3;b0211;b1211;x06;x14;x28;");
        y.exchange(2);
        due("25 by 8, above", y.letter(2, 0), 25);
        due("25 by 8, below", y.letter(2, 1), 8);
        y.exchange(0);
        due("33 by 48, above", y.letter(0, 0), 11);
        due("33 by 48, below", y.letter(0, 1), 16);
    }

    private static void noneToBeMultiplied() {
        check.sentence("(1, if there is none to be multiplied.)");
        LetterExchange x = Check.told("n4;b0111;x05;x17;x23;x39;");
        due("P and Q are 1, above", x.letter(2, 5), 2);
        due("P and Q are 1, below", x.letter(2, 6), 3);
        due("P alone is 1: 7 and 1 by 5, above", x.letter(0, 5), 8);
        due("P alone is 1: 7 and 1 by 5, below", x.letter(0, 6), 5);
        due("Q alone is 1: 5 and 1 by 7, above", x.letter(1, 5), 6);
        due("Q alone is 1: 5 and 1 by 7, below", x.letter(1, 6), 7);
        due("exchanged", x.exchange(3), 3);
        due("2 by 9, above", x.letter(3, 0), 2);
        due("2 by 9, below", x.letter(3, 1), 9);
    }

    private static void aboveThousandMillion() {
        check.sentence("It is refused, if a number above 1000000000 would come");
        refused("P above 18854859969", "n2;b0123;x08;", "10", 1);
        refused("Q above 18854859969", "n2;b1032;x08;", "10", 1);
        refused("P above 1911240521", "n3;b0133;b2111;x04;", "010", 2);
        refused("P above 1911240521", "n3;b0233;b1231;x04;", "020", 1);
        refused("P below 1089547389", "n3;b1013;b2031;x03;x27;", "20", 1);
        refused("Q below 5044200875", "n3;b0131;b0213;x05;x12;x27;", "20", 1);
        refused("sum above 1001404928", "n3;b0133;b2031;", "1020", 1);
        refused("sum below 1289945088", "n4;b3133;b3212;x06;x28;x33;", "231", 2);
        refused("quotient above 1552874978", "n3;b0133;b0233;x14;x29;", "210", 1);
        refused("quotient below 1549681956", "n3;b0131;b2033;x18;x29;", "20", 1);
        refused("sum above 1000000001", "n3;b0132;b1231;x14;x23;", "1220", 2);
        refused("sum above 1000000001", "n4;b2022;b2112;b1332;x06;x23;x39;", "121", 3);
        LetterExchange x = taken("n4;b0122;b0233;b1233;b1333;x04;x35;", "031", 2);
        due("1000000000 itself, below", x.letter(2, 1), 1000000000);
        // 1000000000 comes on the way: once above, once below.
        taken("n4;b3022;b3111;b2322;x02;x33;", "20130", 3);
        taken("n3;b0133;b1223;x05;x24;", "021", 0);
    }

    private static void letterByLetter() {
        check.sentence("P, Q are multiplied LETTER by LETTER, rising, one by one");
        // In falling order the first two would be taken, and the last one would be refused.
        refused("P above 1073741824", "n4;b2121;b3031;b1322;x28;x38;", "31", 0);
        refused("P below 1073741824", "n4;b0133;b0222;b3033;b1333;x18;", "120", 3);
        taken("n4;b0233;b3022;b1322;x09;x19;", "03", 2);
    }

    private static void oneByOne() {
        check.sentence("one by one, in lowest terms each time, then added, then divided");
        // As powers of each LETTER, multiplied then, these would be refused.
        taken("n4;b2031;b1221;b0323;x03;x16;", "02", 3);
        taken("n4;b0122;b0333;b3222;x38;", "130", 2);
    }

    private static void lowestTermsEachTime() {
        check.sentence("then divided, in lowest terms each time.");
        // Products that are not in lowest terms would be above 1000000000.
        taken("n3;b2022;b2122;x04;", "201", 2);
        taken("n3;b1021;b2023;x24;", "012", 0);
    }

    private static void tableBySigns() {
        check.sentence("if b at i, k and b at k, j are both above 0 their product more, "
                + "if both are below 0 their product less.");
        tableBehind("n3;b0122;b1233;b0211;", 7, -7);
        tableBehind("n3;b1022;b2133;b0211;", -5, 5);
        tableBehind("n3;b0122;b2133;b0211;", 1, -1);
        tableBehind("n3;b1022;b1233;b0211;", 1, -1);
        tableBehind("n3;b0122;b0211;", 1, -1);
        tableBehind("n3;b1233;b0211;", 1, -1);
        tableBehind("n3;b0121;b1212;", 2, -2);
    }

    private static void tableBehind(String text, int at02, int at20) {
        LetterExchange x = Check.told(text);
        int at01 = x.table(0, 1);
        int at21 = x.table(2, 1);
        x.exchange(1);
        due("0 2 of " + text, x.table(0, 2), 1000 + at02);
        due("2 0 of " + text, x.table(2, 0), 1000 + at20);
        due("the other sign, 0 1 of " + text, x.table(0, 1), 2000 - at01);
        due("the other sign, 2 1 of " + text, x.table(2, 1), 2000 - at21);
        for (int i = 0; i < 3; i++) due("i, i of " + text, x.table(i, i), 1000);
    }

    private static void greaterNumberByNumber() {
        check.sentence("the greater, number by number, of (all i with b at i, k above 0");
        // D of 1: of 0 once (-1, 0, 0), of 2 twice (0, 0, -2): the greater is 0 each time.
        LetterExchange x = Check.exchanged("n3;b0111;b1222;", "1");
        row(x, 1, D, 0, 1, 0);
        Check.tell(x, "n3;b0111;b2111;");
        x.exchange(0);
        x.exchange(2);
        // Both hang on 1 on the same side: (1, 0, 0) and (0, 0, 1), against nothing.
        x.exchange(1);
        row(x, 1, D, 1, 1, 1);
        Check.tell(x, "n3;b0111;b1211;");
        x.exchange(0);
        x.exchange(2);
        // One on each side, (1, 0, 0) and (0, 0, 1): the greater of each number.
        x.exchange(1);
        row(x, 1, D, 1, 1, 1);
    }

    private static void row(LetterExchange x, int i, int which, int... due) {
        for (int k = 0; k < due.length; k++) {
            due("row " + i + " " + which + " " + k, x.row(i, which, k), 1000 + due[k]);
        }
    }

    private static void signsBothAboveOrBelow() {
        check.sentence("more by c times b at k, j, if both are above 0, less by that product, if both are below 0.");
        LetterExchange x = Check.told("n3;b1022;b1233;");
        x.exchange(1);
        // Both above 0 at 0 (2) and 2 (3).
        row(x, 0, C, 1, 2, 0);
        row(x, 1, C, 0, -1, 0);
        row(x, 2, C, 0, 3, 1);
        // Now c is -1 and b at 1, j is below 0: the product is taken away again.
        x.exchange(1);
        row(x, 0, C, 1, 0, 0);
        row(x, 1, C, 0, 1, 0);
        row(x, 2, C, 0, 0, 1);
        // c above 0 and b below 0: nothing comes.
        x.exchange(0);
        row(x, 0, C, -1, 0, 0);
        row(x, 1, C, 0, 1, 0);
        // c below 0 and b above 0: nothing comes, either.
        LetterExchange y = Check.told("n2;b0111;");
        y.exchange(1);
        row(y, 1, C, 0, -1);
        due("b at 1, 0 is above 0 now", y.table(1, 0), 1001);
        y.exchange(1);
        row(y, 0, C, 1, 0);
    }

    private static void degreesBySign() {
        check.sentence("if a number of C of k is above 0, else of b at i, k itself, "
                + "as often as that is where it is above 0, together, less what it was.");
        // C of 1 is above 0: b at i, 1 with the other sign is above 0 at 2 alone, twice: (0, 0, 2) less (0, 1, 0).
        LetterExchange x = Check.exchanged("n3;b0133;b1222;", "1");
        row(x, 1, G, 0, -1, 2);
        // Now it is below 0: b at 2, 1 itself is 2: (0, 0, 2) less (0, -1, 2).
        due("b at 2, 1", x.table(2, 1), 1002);
        x.exchange(1);
        row(x, 1, G, 0, 1, 0);
        // None above 0: what it was with the other sign.
        x.exchange(2);
        row(x, 2, G, 0, 0, -1);
    }

    private static void aheadOfIt() {
        check.sentence("All by THE TABLE and ROWS as they were ahead of it.");
        // By THE TABLE behind it C of 0 would stay (1, 0), and G of 1 would be (1, -1).
        LetterExchange x = Check.exchanged("n2;b1011;", "1");
        row(x, 0, C, 1, 1);
        row(x, 1, C, 0, -1);
        row(x, 1, G, 1, -1);
        LetterExchange y = Check.exchanged("n2;b0111;", "1");
        row(y, 0, C, 1, 0);
        row(y, 1, G, 0, -1);
    }

    private static void beyondNinetyNine() {
        check.sentence("A number above 99 or below -99 of any: refused.");
        refused("table 100", "n4;b0222;b2133;b3021;b3121;", "021", 2);
        refused("table -100", "n4;b0212;b2132;b1313;b2312;", "231", 2);
        refused("D 100", "n3;b0232;b1212;x02;x11;x29;", "202102", 0);
        refused("C 100", "n4;b1022;b2011;b2122;b0333;b2322;", "201", 3);
        refused("G 100", "n3;b1022;b2022;x24;", "120101", 2);
        extreme(TABLE, 99, taken("n3;b1033;b2011;b1233;", "21", 0));
        extreme(TABLE, -99, taken("n3;b1033;b2011;b1233;", "21", 0));
        extreme(D, 99, taken("n3;b0133;b2011;b2111;x02;x19;x21;", "10210", 1));
        extreme(C, 99, taken("n3;b1011;b2032;b2132;", "201", 2));
        extreme(C, -99, taken("n3;b1031;b0231;x09;x15;", "102012202", 1));
        extreme(G, 99, taken("n3;b2022;b2132;x22;", "2121", 0));
        extreme(G, -99, taken("n3;b1031;b0231;x09;x15;", "10201220", 2));
    }

    /** The number is there, and none is beyond 99. */
    private static void extreme(int which, int number, LetterExchange x) {
        boolean there = false;
        for (int i = 0; i < x.told(0); i++) {
            for (int k = 0; k < x.told(0); k++) {
                int seen = (which == TABLE ? x.table(i, k) : x.row(i, which, k)) - 1000;
                there |= seen == number;
                check.holds("within 99: " + seen, Math.abs(seen) <= 99);
            }
        }
        check.holds(number + " is there", there);
    }

    private static void rankedByRows() {
        check.sentence("the first number that differs the lesser first");
        LetterExchange x = Check.told("n4;");
        places(x, 0, 1, 2, 3);
        due("1 exchanged", x.exchange(1), 3);
        // (-1, 0, 0, 0), (0, 1, 0, 0), (0, 0, -1, 0), (0, 0, 0, -1)
        places(x, 0, 3, 1, 2);
        due("3 exchanged", x.exchange(3), 2);
        places(x, 0, 3, 1, 2);
        due("0 exchanged", x.exchange(0), 3);
        places(x, 3, 2, 0, 1);
        due("2 exchanged", x.exchange(2), 1);
        places(x, 3, 2, 1, 0);
    }

    private static void places(LetterExchange x, int... due) {
        for (int i = 0; i < due.length; i++) due("place of " + i, x.letter(i, 4), due[i]);
    }

    private static void likeRowsByNumber() {
        check.sentence("of like ones by number.");
        String[] texts = {"n4;b2022;b2111;b0311;b1322;b3211;", "n4;b1011;b0222;b2111;b1333;b3222;",
            "n4;b0122;b2011;b2122;b0322;b1311;b3211;", "n4;b1011;b2022;b0311;b3122;b3211;"};
        String[] paths = {"03210", "01230", "13201", "10321"};
        for (int run = 0; run < texts.length; run++) {
            LetterExchange x = Check.exchanged(texts[run], paths[run]);
            int[][] d = new int[4][4];
            for (int i = 0; i < 4; i++) {
                for (int k = 0; k < 4; k++) d[i][k] = x.row(i, D, k);
            }
            boolean alike = false;
            for (int i = 0; i < 4; i++) {
                int before = 0;
                for (int j = 0; j < 4; j++) {
                    int order = Arrays.compare(d[j], d[i]);
                    if (order < 0 || order == 0 && j < i) before++;
                    alike |= order == 0 && j != i;
                }
                due("place of " + i + ", " + texts[run], x.letter(i, 4), before);
            }
            check.holds("two rows are alike, " + texts[run], alike);
            int last = paths[run].charAt(4) - '0';
            int place = x.letter(last, 4);
            x.undo(1);
            due("the place that exchange() answers, " + texts[run], x.exchange(last), place);
        }
    }

    private static void toldBounds() {
        check.sentence("9 how many can be undone. OUTSIDE.");
        LetterExchange x = new LetterExchange();
        for (int what : new int[] {LEAST, -1000000001, -2, -1, 10, 11, 1000, MOST}) {
            due("told " + what, x.told(what), OUTSIDE);
        }
        int[] due = {2, 0, 1, 0, 5, 5, 2, 0, NONE, 0};
        for (int what = 0; what <= 9; what++) due("told " + what, x.told(what), due[what]);
    }

    private static void refusedAside() {
        check.sentence("3 EXCHANGES since the text or start(), what was refused aside (99999 at most)");
        LetterExchange x = Check.exchanged("n2;b0133;", "1010");
        due("four", x.told(3), 4);
        due("refused", x.exchange(1), NOT);
        due("unknown", x.exchange(2), UNKNOWN);
        due("still four", x.told(3), 4);
        x.start();
        due("since start()", x.told(3), 0);
        x.exchange(1);
        due("one since", x.told(3), 1);
        Check.tell(x, "n2;b0111;");
        due("since the text", x.told(3), 0);
        // 99999 is more than 512 calls can bring; this is about as much as they can.
        for (int call = 1; call <= 470; call++) due("drift", x.drift(20), 20 * call);
        due("many", x.told(3), 9400);
    }

    private static void tableBounds() {
        check.sentence("b at i, j (perhaps the same LETTER), and 1000. UNKNOWN.");
        for (int n = 2; n <= 4; n++) {
            LetterExchange x = Check.told("n" + n + ";");
            for (int i = -1; i <= n; i++) {
                for (int j = -1; j <= n; j++) {
                    boolean known = i >= 0 && i < n && j >= 0 && j < n;
                    due("table " + i + " " + j, x.table(i, j), known ? 1000 : UNKNOWN);
                }
            }
            due("least, most", x.table(LEAST, MOST), UNKNOWN);
            due("most, least", x.table(MOST, LEAST), UNKNOWN);
            due("0, most", x.table(0, MOST), UNKNOWN);
            due("least, 0", x.table(LEAST, 0), UNKNOWN);
        }
    }

    private static void letterBounds() {
        check.sentence("2 WEIGHT (NONE: not WELL), 3 BOUND (a SET), 4 its place as RANKED, "
                + "5, 6 what it would be WORTH, EXCHANGED, above, below (NONE: refused). UNKNOWN, OUTSIDE.");
        LetterExchange x = Check.told("n3;b0131;b1211;x04;");
        int[] due = {4, 1, 1, 2, 0, 1, 2};
        for (int what = 0; what <= 6; what++) due("letter 0 " + what, x.letter(0, what), due[what]);
        for (int what : new int[] {LEAST, -1, 7, MOST}) due("letter 0 " + what, x.letter(0, what), OUTSIDE);
        for (int i : new int[] {LEAST, -1, 3, MOST}) {
            due("letter " + i + " 0", x.letter(i, 0), UNKNOWN);
            due("letter " + i + " 7", x.letter(i, 7), UNKNOWN);
        }
        LetterExchange y = Check.told(NOT_WELL);
        for (int i = 0; i < 3; i++) {
            due("not well, weight", y.letter(i, 2), NONE);
            due("not well, bound", y.letter(i, 3), 7 - (1 << i));
            due("not well, place", y.letter(i, 4), i);
            due("not well, above", y.letter(i, 5), NONE);
            due("not well, below", y.letter(i, 6), NONE);
            due("not well, outside", y.letter(i, 7), OUTSIDE);
        }
        LetterExchange z = Check.exchanged("n2;b0133;", "1010");
        due("refused, above", z.letter(1, 5), NONE);
        due("refused, below", z.letter(1, 6), NONE);
    }

    private static void rowBounds() {
        check.sentence("which = 0 D, 1 C, 2 G; k 0 to LETTERS less 1. UNKNOWN, OUTSIDE.");
        for (int n = 2; n <= 4; n++) {
            LetterExchange x = Check.told("n" + n + ";");
            for (int i = -1; i <= n; i++) {
                for (int which = -1; which <= 3; which++) {
                    for (int k = -1; k <= n; k++) {
                        boolean known = i >= 0 && i < n;
                        boolean inside = which >= 0 && which <= 2 && k >= 0 && k < n;
                        int number = i != k ? 1000 : which == 0 ? 999 : 1001;
                        int due = !known ? UNKNOWN : !inside ? OUTSIDE : number;
                        due("row " + i + " " + which + " " + k, x.row(i, which, k), due);
                    }
                }
            }
            due("least", x.row(LEAST, 0, 0), UNKNOWN);
            due("most", x.row(MOST, MOST, MOST), UNKNOWN);
            due("which least", x.row(0, LEAST, 0), OUTSIDE);
            due("k most", x.row(0, 0, MOST), OUTSIDE);
        }
    }

    private static void exchangeBounds() {
        check.sentence("EXCHANGED: its place as RANKED then. UNKNOWN, NOT: refused, or not WELL.");
        LetterExchange x = Check.told("n3;b0111;b1211;");
        for (int k : new int[] {LEAST, -1, 3, 4, MOST}) due("exchange " + k, x.exchange(k), UNKNOWN);
        due("none", x.told(3), 0);
        due("the last letter", x.exchange(2), 2);
        due("the first letter", x.exchange(0), 2);
        LetterExchange y = Check.told(NOT_WELL);
        due("not well", y.exchange(2), NOT);
        due("not well, unknown", y.exchange(3), UNKNOWN);
        LetterExchange z = Check.exchanged("n2;b0133;", "1010");
        due("refused", z.exchange(1), NOT);
        // D of 0 is (1, 3) again, and of 1 it is (3, 8).
        due("the other is not", z.exchange(0), 0);
    }
}
