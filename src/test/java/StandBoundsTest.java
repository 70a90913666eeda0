import java.util.HashSet;
import java.util.Set;

/**
 * Each sentence of the document that names a bound of STANDS, of what is BOUND or of TURNS, with a test of its
 * own: the first half of part 3 of the terms, and promises 5, 9 and 14 to 17.
 */
public final class StandBoundsTest {
    private static final int NONE = LetterExchange.NONE;
    private static final int UNKNOWN = LetterExchange.UNKNOWN;
    private static final int OUTSIDE = LetterExchange.OUTSIDE;
    private static final int NOT = LetterExchange.NOT;
    private static final int LEAST = Integer.MIN_VALUE;
    private static final int MOST = Integer.MAX_VALUE;
    private static final String NOT_WELL = "n3;b0112;b1212;b2012;";
    /** The text with the most STANDS there can be: 105, of 28 LETTERS. */
    private static final String MANY = "n4;b0111;b1221;b2311;";
    private static final String[] OPEN = {
        NOT_WELL, "n2;b0122;", "n2;b0123;", "n2;b0133;", "n3;b0111;b1211;b0211;", "n3;b0122;b1222;b2022;",
        "n3;b0111;b1213;", "n4;b0111;b2322;", "n4;b0111;b1211;b2311;b0311;"
    };

    private static final Check check = new Check("StandBoundsTest");

    public static void main(String[] args) {
        sameStands();
        fromWhatIsSoNow();
        standZero();
        rankedThere();
        untilNoneIsNew();
        openIfNotWell();
        openByProduct();
        openBeyond();
        noSay();
        allLetters();
        far();
        openTold();
        bound();
        aSet();
        turnsHome();
        turnsBounds();
        oneTwice();
        standBounds();
        nextBounds();
        awayBounds();
        standRowBounds();
        fiveHundredTwelveCalls();
        check.end();
    }

    private static void due(String what, long got, long want) {
        check.due(what, got, want);
    }

    private static void sameStands() {
        check.sentence("two are the same, if they have the same D ROWS, RANKED, and THE TABLE, so numbered, is the same.");
        LetterExchange x = Check.told("n2;b0111;");
        // Five exchanges by turns come home with the two letters changed about.
        for (int turn = 0; turn < 5; turn++) x.exchange(turn % 2);
        due("D of 0 is that of 1", x.row(0, 0, 1), 999);
        due("D of 1 is that of 0", x.row(1, 0, 0), 999);
        due("five stands", x.told(4), 5);
        due("round about", walkRound(x), 5);
        // THE TABLE counts, too: with letters that do not hang together there are four.
        due("four stands", Check.told("n2;").told(4), 4);
    }

    /** How many steps there are until STAND 0 comes again, always on to the neighbour that is not the last one. */
    private static int walkRound(LetterExchange x) {
        int last = 0;
        int here = x.next(0, 0);
        int steps = 1;
        while (here != 0 && steps < 50) {
            int on = x.next(here, 0) == last ? x.next(here, 1) : x.next(here, 0);
            last = here;
            here = on;
            steps++;
        }
        return steps;
    }

    private static void standZero() {
        check.sentence("from this one on (STAND 0, 0 steps away)");
        LetterExchange x = Check.told(MANY);
        for (String path = "1203021"; !path.isEmpty(); path = path.substring(1)) {
            due("steps of stand 0", x.stand(0, 0), 0);
            due("one is 0 steps away", x.away(0), 1);
            isStandZero("the row of stand 0", x);
            x.exchange(path.charAt(0) - '0');
        }
    }

    private static void fromWhatIsSoNow() {
        check.sentence("STANDS are what can be come to by EXCHANGES from what is so now");
        LetterExchange x = Check.told("n3;b0111;");
        isStandZero("as told", x);
        x.keep(0);
        x.exchange(2);
        isStandZero("behind exchange()", x);
        x.undo(1);
        isStandZero("behind undo()", x);
        x.drift(3);
        isStandZero("behind drift()", x);
        x.keep(1);
        x.start();
        isStandZero("behind start()", x);
        x.exchange(0);
        x.goBack(1);
        isStandZero("behind goBack()", x);
        x.goBack(0);
        isStandZero("behind goBack() again", x);
        x.exchange(0);
        Check.tell(x, "n2");
        isStandZero("behind a text with a fault", x);
        x.exchange(7);
        isStandZero("behind what was refused", x);
        Check.tell(x, "n4;b2311;");
        isStandZero("behind a text", x);
    }

    private static void isStandZero(String when, LetterExchange x) {
        int n = x.told(0);
        for (int i = 0; i < n; i++) {
            for (int k = 0; k < n; k++) due(when, x.standRow(0, x.letter(i, 4), k), x.row(i, 0, k));
        }
    }

    private static void rankedThere() {
        check.sentence("LETTERS as they are RANKED there, from the first on, if it is new: "
                + "STANDS are numbered as they are come to");
        LetterExchange x = Check.told("n3;b0111;b1211;");
        int found = 1;
        for (int s = 0; s < 14; s++) {
            for (int k = 0; k < 3; k++) {
                int to = x.next(s, k);
                check.holds("a new one has the next number: " + to, to <= found);
                if (to == found) {
                    due("come to from", x.stand(to, 1), s);
                    due("by", x.stand(to, 2), k);
                    due("steps", x.stand(to, 0), x.stand(s, 0) + 1);
                    found++;
                }
            }
        }
        due("all", found, 14);
        // Ranked, the letter that stands first now is 1: exchange it, and STAND 1 is come to.
        LetterExchange y = Check.exchanged("n2;", "0");
        due("the place of 1", y.letter(1, 4), 0);
        y.exchange(1);
        int first = y.row(1, 0, 1);
        y.undo(1);
        due("stand 1", y.standRow(1, 0, 1), first);
    }

    private static void untilNoneIsNew() {
        check.sentence("until no other is new");
        LetterExchange x = Check.told(MANY);
        due("all stands", x.told(4), 105);
        due("the last one", x.stand(104, 0), x.told(6));
        due("no other", x.stand(105, 0), UNKNOWN);
        for (int s = 0; s < 105; s++) {
            for (int k = 0; k < 4; k++) {
                int to = x.next(s, k);
                check.holds("it leads to one of them: " + to, to >= 0 && to < 105 && to != s);
            }
        }
        stands("n2;", 4);
        stands("n2;b0111;", 5);
        stands("n2;b0121;", 6);
        stands("n2;b0113;", 8);
        stands("n3;", 8);
        stands("n4;", 16);
        stands("n4;b0131;b2331;", 64);
    }

    private static void stands(String text, int due) {
        LetterExchange x = Check.told(text);
        due("stands of " + text, x.told(4), due);
        due("the last of " + text, x.stand(due - 1, 0), x.told(6));
        due("no more of " + text, x.stand(due, 0), UNKNOWN);
    }

    private static void openIfNotWell() {
        check.sentence("OPEN is the end, if THE TABLE is not WELL");
        // Each product is -3 at least, so that there is no other reason at first.
        isOpen(Check.told(NOT_WELL));
        isOpen(Check.told("n3;b0113;b1213;b2013;"));
        isOpen(Check.told("n4;b0113;b1213;b2313;"));
    }

    private static void isOpen(LetterExchange x) {
        for (int what = 4; what <= 6; what++) due("told " + what, x.told(what), NONE);
        due("stand", x.stand(0, 0), UNKNOWN);
        due("next", x.next(0, 0), UNKNOWN);
        due("away", x.away(0), NONE);
        due("standRow", x.standRow(0, 0, 0), UNKNOWN);
    }

    private static void openByProduct() {
        check.sentence("if one that is come to (STAND 0, too) has b at i, j times b at j, i below -3");
        due("-3", Check.told("n2;b0131;").told(4), 8);
        due("-3", Check.told("n2;b0113;").told(4), 8);
        isOpen(Check.told("n2;b0122;"));
        isOpen(Check.told("n2;b0132;"));
        isOpen(Check.told("n3;b0222;"));
        // One exchange away, and two.
        LetterExchange x = Check.told("n3;b0111;b1211;b0211;");
        isOpen(x);
        x.exchange(1);
        due("the product is -4 now", x.table(0, 2), 1002);
        isOpen(x);
        x.exchange(1);
        isOpen(x);
        LetterExchange y = Check.told("n4;b0111;b1211;b2311;b0311;");
        isOpen(y);
        y.exchange(1);
        isOpen(y);
    }

    /** Numbers beyond 99 and a 201st STAND never come alone: where they come, a product below -3 does, too. */
    private static void openBeyond() {
        check.sentence("or a number of it or its D ROWS beyond 99, or a 201st would come.");
        isOpen(Check.told("n2;b0133;"));
        isOpen(Check.exchanged("n3;b1033;b2011;b1233;", "210"));
        isOpen(Check.exchanged("n3;b0133;b2011;b2111;x02;x19;x21;", "102101"));
        due("105 of 200", Check.told(MANY).told(4), 105);
    }

    private static void noSay() {
        check.sentence("(WORTHS, C and G ROWS have no say.)");
        // A letter that cannot be exchanged, as its WORTH would be too great: all stands are there.
        LetterExchange x = Check.exchanged("n4;b2011;b3012;b1311;x15;x29;x37;", "02301");
        due("refused", x.exchange(3), NOT);
        due("all stands", x.told(4), 105);
        due("all letters", x.told(5), 28);
        int place = x.letter(3, 4);
        int to = x.next(0, place);
        check.holds("it leads to a stand: " + to, to > 0);
        due("one step away", x.stand(to, 0), 1);
        LetterExchange y = Check.told("n4;b2011;b3012;b1311;");
        for (char k : "02301".toCharArray()) y.exchange(k - '0');
        for (int s = 0; s < 105; s++) {
            due("as with other worths", x.stand(s, 1), y.stand(s, 1));
            due("as with other worths", x.standRow(s, s % 4, s % 3), y.standRow(s, s % 4, s % 3));
        }
        // Home again by turns, C and G are others than at first; STAND 0 is the same one.
        LetterExchange z = Check.exchanged("n2;b0111;", "01010");
        LetterExchange first = Check.told("n2;b0111;");
        for (int s = 0; s < 5; s++) {
            for (int k = 0; k < 2; k++) due("the way from " + s, z.next(s, k), first.next(s, k));
        }
    }

    private static void allLetters() {
        check.sentence("how many unlike D ROWS there are in all STANDS.");
        for (String text : new String[] {"n2;", "n2;b0111;", "n3;b0111;b1211;", "n3;b0111;b1211;b2011;"}) {
            LetterExchange x = Check.told(text);
            int n = x.told(0);
            Set<String> rows = new HashSet<>();
            for (int s = 0; s < x.told(4); s++) {
                for (int k = 0; k < n; k++) {
                    StringBuilder row = new StringBuilder();
                    for (int m = 0; m < n; m++) row.append(x.standRow(s, k, m)).append(' ');
                    rows.add(row.toString());
                }
            }
            due("all letters of " + text, x.told(5), rows.size());
        }
        due("of the most stands", Check.told(MANY).told(5), 28);
        due("of none that hang together", Check.told("n4;").told(5), 8);
    }

    private static void far() {
        check.sentence("FAR: the greatest number of steps.");
        for (String text : new String[] {"n2;", "n2;b0111;", "n3;b0111;b1221;", MANY}) {
            LetterExchange x = Check.told(text);
            int greatest = 0;
            for (int s = 0; s < x.told(4) && s < 120; s++) greatest = Math.max(greatest, x.stand(s, 0));
            due("far of " + text, x.told(6), greatest);
        }
        due("far of two", Check.told("n2;b0111;").told(6), 2);
        due("far of eight", Check.told("n2;b0113;").told(6), 4);
        due("far of four apart", Check.told("n4;").told(6), 4);
    }

    private static void openTold() {
        check.sentence("4 STANDS, 5 ALL LETTERS, 6 FAR (4 to 6: NONE: OPEN)");
        for (String text : OPEN) {
            LetterExchange x = Check.told(text);
            for (int what = 4; what <= 6; what++) due("told " + what + " of " + text, x.told(what), NONE);
            Check.tell(x, "n2;");
            due("no more open, stands", x.told(4), 4);
            due("no more open, letters", x.told(5), 4);
            due("no more open, far", x.told(6), 2);
            Check.tell(x, text);
            for (int what = 6; what >= 4; what--) due("again " + what + " of " + text, x.told(what), NONE);
        }
    }

    private static void bound() {
        check.sentence("BOUND: LETTERS j with b at i, j other than 0.");
        LetterExchange x = Check.told("n4;b0113;b2021;");
        due("of 0", x.letter(0, 3), 2 + 4);
        due("of 1", x.letter(1, 3), 1);
        due("of 2", x.letter(2, 3), 1);
        due("of 3", x.letter(3, 3), 0);
        x.exchange(0);
        // 2 hangs on 0 and 0 on 1: 1 and 2 are bound now.
        due("of 1, exchanged", x.letter(1, 3), 1 + 4);
        due("of 2, exchanged", x.letter(2, 3), 1 + 2);
        x.exchange(0);
        due("of 1 again", x.letter(1, 3), 1);
    }

    private static void aSet() {
        check.sentence("A SET is a whole number, bit k for k.");
        due("none", Check.told("n4;").letter(0, 3), 0);
        for (int i = 0; i < 4; i++) {
            StringBuilder text = new StringBuilder("n4;");
            for (int j = 0; j < 4; j++) {
                if (j == i) continue;
                due("one", Check.told("n4;b" + i + j + "11;").letter(i, 3), 1 << j);
                due("one, the other sign", Check.told("n4;b" + j + i + "11;").letter(i, 3), 1 << j);
                text.append('b').append(i).append(j).append("11;");
            }
            due("all but itself", Check.told(text.toString()).letter(i, 3), 15 - (1 << i));
        }
    }

    private static void turnsHome() {
        check.sentence("how many EXCHANGES by turns, the first one first, 1 at least, until D ROWS, RANKED, "
                + "are the same as now");
        String[] texts = {"n2;", "n2;b0111;", "n2;b0112;", "n2;b0113;", "n3;b1221;b0111;", MANY};
        for (String text : texts) {
            LetterExchange x = Check.told(text);
            int n = x.told(0);
            for (int i = 0; i < n; i++) {
                for (int j = 0; j < n; j++) {
                    if (i == j) continue;
                    int bond = x.table(i, j) == 1000 ? 0 : (x.table(i, j) - 1000) * (1000 - x.table(j, i));
                    int turns = x.byTurns(i, j);
                    due("turns of " + i + j + " in " + text, turns, new int[] {4, 5, 6, 8}[bond]);
                    for (int turn = 1; turn <= turns; turn++) {
                        x.exchange(turn % 2 == 1 ? i : j);
                        boolean home = true;
                        for (int k = 0; k < n; k++) {
                            for (int m = 0; m < n; m++) home &= x.standRow(0, k, m) == (k == m ? 999 : 1000);
                        }
                        check.holds("home at the last turn alone: " + turn, home == (turn == turns));
                    }
                    x.start();
                    if (text.equals(MANY)) x = Check.told(text);
                }
            }
        }
    }

    private static void turnsBounds() {
        check.sentence("(20 at most; NONE: more, THE TABLE is not WELL, or a number beyond 99 comes)");
        due("more", Check.told("n2;b0122;").byTurns(0, 1), NONE);
        due("more", Check.told("n2;b0122;").byTurns(1, 0), NONE);
        due("more, of three", Check.told("n3;b0222;").byTurns(2, 0), NONE);
        due("beyond 99", Check.told("n2;b0133;").byTurns(0, 1), NONE);
        due("beyond 99", Check.told("n2;b0123;").byTurns(1, 0), NONE);
        // The two that take turns hang together by 1 at most, but another comes beyond 99.
        due("beyond 99, a third one", Check.exchanged("n4;b1233;b2333;", "23").byTurns(0, 1), NONE);
        LetterExchange x = Check.told(NOT_WELL + "b0100;b1012;");
        for (int i = 0; i < 3; i++) due("not well", x.byTurns(i, (i + 1) % 3), NONE);
        due("the longest way", Check.told("n2;b0113;").byTurns(0, 1), 8);
        // What WORTHS would be has no say: 0 cannot be exchanged here, yet it comes home by turns.
        LetterExchange y = Check.exchanged("n3;b2033;", "0202");
        due("its worth would be too great", y.exchange(0), NOT);
        due("but it comes home", y.byTurns(0, 1), 4);
        due("and so by the other turns", y.byTurns(1, 0), 4);
        due("nothing was exchanged", y.told(3), 4);
    }

    private static void oneTwice() {
        check.sentence("one twice, where two are asked");
        LetterExchange x = Check.told("n3;b0111;");
        for (int i = 0; i < 3; i++) due("byTurns", x.byTurns(i, i), UNKNOWN);
        due("table asks perhaps the same", x.table(1, 1), 1000);
        due("not well, too", Check.told(NOT_WELL).byTurns(2, 2), UNKNOWN);
        check.sentence("TURNS; NONE. UNKNOWN.");
        for (int i : new int[] {LEAST, -1, 3, 4, MOST}) {
            due("byTurns " + i + " 0", x.byTurns(i, 0), UNKNOWN);
            due("byTurns 0 " + i, x.byTurns(0, i), UNKNOWN);
            due("byTurns " + i + " twice", x.byTurns(i, i), UNKNOWN);
            due("open", Check.told("n2;b0122;").byTurns(i, 0), UNKNOWN);
            due("not well", Check.told(NOT_WELL).byTurns(0, i), UNKNOWN);
        }
    }

    private static void standBounds() {
        check.sentence("that was EXCHANGED (1, 2: NONE of STAND 0). UNKNOWN (OPEN, too), OUTSIDE.");
        LetterExchange x = Check.told("n2;b0111;");
        for (int turn = 0; turn < 6; turn++) {
            due("steps of stand 0", x.stand(0, 0), 0);
            due("stand 0 is come to from", x.stand(0, 1), NONE);
            due("stand 0 is come to by", x.stand(0, 2), NONE);
            for (int s = 1; s < 5; s++) {
                check.holds("from a stand ahead of it", x.stand(s, 1) >= 0 && x.stand(s, 1) < s);
                check.holds("by a letter", x.stand(s, 2) == 0 || x.stand(s, 2) == 1);
            }
            x.exchange(turn % 2);
        }
        for (int s : new int[] {LEAST, -1, 5, 200, MOST}) {
            for (int what = -1; what <= 3; what++) due("stand " + s + " " + what, x.stand(s, what), UNKNOWN);
        }
        for (int what : new int[] {LEAST, -1, 3, MOST}) {
            for (int s = 0; s < 5; s++) due("stand " + s + " " + what, x.stand(s, what), OUTSIDE);
        }
        for (String text : OPEN) {
            LetterExchange y = Check.told(text);
            for (int what = -1; what <= 3; what++) due("open: " + text, y.stand(0, what), UNKNOWN);
        }
    }

    private static void nextBounds() {
        check.sentence("The STAND to which the EXCHANGE of the k-th LETTER, as RANKED, of a STAND leads. "
                + "UNKNOWN (OPEN, too).");
        LetterExchange x = Check.told("n3;b0111;b1221;");
        due("stands", x.told(4), 20);
        for (int s : new int[] {LEAST, -1, 20, 200, MOST}) {
            for (int k = -1; k <= 3; k++) due("next " + s + " " + k, x.next(s, k), UNKNOWN);
        }
        for (int k : new int[] {LEAST, -1, 3, 4, MOST}) {
            for (int s = 0; s < 20; s++) due("next " + s + " " + k, x.next(s, k), UNKNOWN);
        }
        for (int s = 0; s < 20; s++) {
            for (int k = 0; k < 3; k++) {
                int to = x.next(s, k);
                check.holds("there is a way back from " + to,
                        x.next(to, 0) == s || x.next(to, 1) == s || x.next(to, 2) == s);
            }
        }
        for (String text : OPEN) due("open: " + text, Check.told(text).next(0, 0), UNKNOWN);
    }

    private static void awayBounds() {
        check.sentence("How many STANDS are so many steps away; NONE: OPEN.");
        LetterExchange x = Check.told(MANY);
        int sum = 0;
        for (int steps = 0; steps <= 7; steps++) sum += x.away(steps);
        due("all of them", sum, 105);
        due("the first", x.away(0), 1);
        due("the next", x.away(1), 4);
        check.holds("as far as can be", x.away(7) > 0);
        for (int steps : new int[] {8, 9, 200, MOST, -1, LEAST}) due("away " + steps, x.away(steps), 0);
        for (String text : OPEN) {
            LetterExchange y = Check.told(text);
            for (int steps : new int[] {LEAST, -1, 0, 1, MOST}) due("open: " + text, y.away(steps), NONE);
        }
    }

    private static void standRowBounds() {
        check.sentence("A number of a D ROW of the k-th LETTER, as RANKED, of a STAND, and 1000. "
                + "UNKNOWN (OPEN, too), OUTSIDE.");
        LetterExchange x = Check.told("n2;b0111;");
        int[][][] due = {{{-1, 0}, {0, -1}}, {{0, -1}, {1, 0}}, {{-1, 0}, {0, 1}}, {{1, 0}, {1, 1}}, {{0, 1}, {1, 1}}};
        for (int s = -1; s <= 5; s++) {
            for (int k = -1; k <= 2; k++) {
                for (int m = -1; m <= 2; m++) {
                    boolean known = s >= 0 && s < 5 && k >= 0 && k < 2;
                    boolean inside = m >= 0 && m < 2;
                    int want = !known ? UNKNOWN : !inside ? OUTSIDE : 1000 + due[s][k][m];
                    due("standRow " + s + " " + k + " " + m, x.standRow(s, k, m), want);
                }
            }
        }
        due("least", x.standRow(LEAST, LEAST, LEAST), UNKNOWN);
        due("most", x.standRow(MOST, MOST, MOST), UNKNOWN);
        due("k most", x.standRow(0, MOST, 0), UNKNOWN);
        due("number most", x.standRow(0, 0, MOST), OUTSIDE);
        for (String text : OPEN) {
            due("open: " + text, Check.told(text).standRow(0, 0, 0), UNKNOWN);
            due("open, outside: " + text, Check.told(text).standRow(0, 0, 9), UNKNOWN);
        }
    }

    private static void fiveHundredTwelveCalls() {
        check.sentence("An object is used for at most 512 calls after it has been made");
        LetterExchange x = Check.told(MANY);
        int calls = MANY.length() + 1;
        for (int exchanges = 1; calls < 512; exchanges++) {
            check.holds("exchange", x.exchange(exchanges * 7 % 4) >= 0);
            due("stands", x.told(4), 105);
            calls += 2;
        }
        due("calls", calls, 512);
    }
}
