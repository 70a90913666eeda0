/**
 * Each sentence of the document that names a bound of THE BOOK, of DRAWS, of what is UNDONE or of IMAGES, with a
 * test of its own: the second half of part 3 of the terms, and promises 11 to 13 and 18 to 22.
 */
public final class DeedBoundsTest {
    private static final int NONE = LetterExchange.NONE;
    private static final int UNKNOWN = LetterExchange.UNKNOWN;
    private static final int OUTSIDE = LetterExchange.OUTSIDE;
    private static final int NOT = LetterExchange.NOT;
    private static final int FULL = LetterExchange.FULL;
    private static final int LEAST = Integer.MIN_VALUE;
    private static final int MOST = Integer.MAX_VALUE;
    private static final String NOT_WELL = "n3;b0112;b1212;b2012;";

    private static final Check check = new Check("DeedBoundsTest");

    public static void main(String[] args) {
        figuresOfBook();
        wrongOfBook();
        letterNoMore();
        writeBounds();
        tearBounds();
        seedAtFirst();
        seedLeftOver();
        drawLeftOver();
        exchangedIfItCanBe();
        driftBounds();
        latestDeeds();
        twentyAreKept();
        seedStays();
        undoBounds();
        startBounds();
        imagesKeep();
        seedBounds();
        keepBounds();
        goBackBounds();
        check.end();
    }

    private static void due(String what, long got, long want) {
        check.due(what, got, want);
    }

    private static int code(LetterExchange x, int i) {
        int code = 0;
        for (int k = 0; k < x.told(0); k++) code = code * 200 + x.row(i, 0, k) - 1000 + 100;
        return code;
    }

    private static int seedOf(LetterExchange x) {
        int seed = x.seed(0);
        x.seed(seed);
        return seed;
    }

    private static void figuresOfBook() {
        check.sentence("(its numbers and 100 as figures of 200, the first the highest)");
        // D of 0 is -1, 0: 99 times 200 and 100.
        right(new LetterExchange(), 0, 19900);
        right(new LetterExchange(), 1, 100 * 200 + 99);
        right(Check.exchanged("n2;b0111;", "01"), 1, 101 * 200 + 101);
        right(Check.told("n4;"), 0, ((99 * 200 + 100) * 200 + 100) * 200 + 100);
        right(Check.told("n4;"), 3, ((100 * 200 + 100) * 200 + 100) * 200 + 99);
        // A number of 99 is the greatest figure there can be.
        LetterExchange x = Check.exchanged("n3;b0133;b2011;b2111;x02;x19;x21;", "102101");
        boolean greatest = false;
        for (int k = 0; k < 3; k++) greatest |= x.row(1, 0, k) == 1099;
        check.holds("99 is there", greatest);
        right(x, 1, code(x, 1));
    }

    /** The number is right for the LETTER, and its neighbours are WRONG. */
    private static void right(LetterExchange x, int i, int number) {
        due("write", x.write(i, number), 1);
        due(number + " is right", x.told(8), NONE);
        for (int other : new int[] {number - 1, number + 1, -number, number - 200, number + 200, 0, LEAST, MOST}) {
            x.tear();
            x.write(i, other);
            due(other + " is wrong", x.told(8), 0);
        }
    }

    private static void wrongOfBook() {
        check.sentence("WRONG: the first that is otherwise now");
        LetterExchange x = new LetterExchange();
        due("an empty book", x.told(8), NONE);
        for (int entry = 0; entry < 20; entry++) x.write(entry % 2, entry == 19 ? 1 : code(x, entry % 2));
        due("the last of all", x.told(8), 19);
        x.exchange(1);
        due("the first one of 1", x.told(8), 1);
        x.exchange(0);
        due("the first of all", x.told(8), 0);
        x.undo(2);
        due("the last again", x.told(8), 19);
        x.tear();
        for (int entry = 0; entry < 20; entry++) x.write(entry % 2, code(x, entry % 2));
        due("none of twenty", x.told(8), NONE);
    }

    private static void letterNoMore() {
        check.sentence("(a LETTER that there is no more: it is, too)");
        // A text leaves no BOOK, so that no entry tells of a LETTER that there is no more.
        LetterExchange x = Check.told("n4;");
        due("write", x.write(3, code(x, 3)), 1);
        Check.tell(x, "n2;");
        due("no entries", x.told(7), 0);
        due("none wrong", x.told(8), NONE);
        due("the letter is gone", x.write(3, 0), UNKNOWN);
        due("still none", x.told(7), 0);
    }

    private static void writeBounds() {
        check.sentence("An entry behind THE BOOK: how many. UNKNOWN, FULL (20).");
        LetterExchange x = Check.told("n3;");
        for (int i : new int[] {LEAST, -1, 3, MOST}) due("write " + i, x.write(i, 0), UNKNOWN);
        due("none came", x.told(7), 0);
        int[] numbers = {0, 1, -1, LEAST, MOST, 1600000000};
        for (int entry = 1; entry <= 20; entry++) {
            due("any number", x.write(entry % 3, numbers[entry % numbers.length]), entry);
        }
        due("full", x.write(0, 0), FULL);
        due("full, unknown", x.write(3, 0), UNKNOWN);
        due("twenty", x.told(7), 20);
        x.tear();
        due("room again", x.write(0, 0), 1);
    }

    private static void tearBounds() {
        check.sentence("No BOOK: how much it had.");
        LetterExchange x = new LetterExchange();
        due("empty", x.tear(), 0);
        for (int had = 1; had <= 20; had++) {
            for (int entry = 0; entry < had; entry++) x.write(0, 5);
            due("tear", x.tear(), had);
            due("none", x.told(7), 0);
            due("none wrong", x.told(8), NONE);
        }
        due("empty again", x.tear(), 0);
    }

    private static void seedAtFirst() {
        check.sentence("THE SEED (0 at first");
        due("seed", new LetterExchange().seed(5), 0);
        LetterExchange x = new LetterExchange();
        x.drift(1);
        due("behind a draw", x.seed(0), 12345);
    }

    private static void seedLeftOver() {
        check.sentence("it becomes it times 1103515245 and 12345, left over by 2 to the 31");
        for (int seed : new int[] {0, 1, 2, 12345, 65535, 65536, 1 << 30, (1 << 30) + 1, MOST - 1, MOST}) {
            LetterExchange x = Check.told("n3;");
            x.seed(seed);
            x.drift(1);
            long due = (seed * 1103515245L + 12345L) % 2147483648L;
            due("behind " + seed, seedOf(x), due);
            x.drift(2);
            for (int more = 0; more < 2; more++) due = (due * 1103515245L + 12345L) % 2147483648L;
            due("two more behind " + seed, seedOf(x), due);
        }
    }

    private static void drawLeftOver() {
        check.sentence("the DRAW of n is it / 65536, left over by n");
        for (int n = 2; n <= 4; n++) {
            for (int seed = 0; seed < 40; seed++) {
                LetterExchange x = Check.told("n" + n + ";");
                x.seed(seed * 53687091);
                x.drift(1);
                int drawn = seedOf(x) / 65536 % n;
                for (int i = 0; i < n; i++) due("letter " + i + " of " + n, x.letter(i, 0), i == drawn ? 2 : 1);
            }
        }
    }

    private static void exchangedIfItCanBe() {
        check.sentence("n times: a DRAW of LETTERS: it is EXCHANGED, if it can be.");
        // 0 is drawn first from THE SEED 0: it cannot be exchanged here.
        LetterExchange x = Check.exchanged("n2;b0133;", "0101");
        due("it cannot", x.letter(0, 5), NONE);
        int[] before = Check.state(x);
        due("none came", x.drift(1), 4);
        check.same("as it was", Check.state(x), before);
        due("the seed is drawn", seedOf(x), 12345);
        // Then 21468: 0 again, and 9988: 0, and 22117: 1, which can be.
        due("none came", x.drift(2), 4);
        due("one came", x.drift(1), 5);
        LetterExchange y = Check.told(NOT_WELL);
        due("not well", y.drift(20), 0);
        check.holds("the seed is drawn", seedOf(y) != 0);
    }

    private static void driftBounds() {
        check.sentence("n times BY DRAWS (1 .. 20): EXCHANGES since the text or start(). OUTSIDE.");
        LetterExchange x = new LetterExchange();
        for (int n : new int[] {LEAST, -20, -1, 0, 21, 22, MOST}) due("drift " + n, x.drift(n), OUTSIDE);
        due("no draw", seedOf(x), 0);
        due("no deed", x.told(9), 0);
        due("1", x.drift(1), 1);
        due("20", x.drift(20), 21);
        x.exchange(0);
        due("exchanges, too", x.drift(1), 23);
        x.start();
        due("since start()", x.drift(2), 2);
        Check.tell(x, "n2;");
        due("since the text", x.drift(3), 3);
    }

    private static void latestDeeds() {
        check.sentence("UNDONE: the latest deeds (exchange(), start(), each of the times BY DRAWS) since the text or IMAGE");
        LetterExchange x = Check.told("n3;b0111;b1212;x05;");
        int[][] states = new int[7][];
        states[0] = Check.state(x);
        x.exchange(1);
        states[1] = Check.state(x);
        x.drift(1);
        states[2] = Check.state(x);
        x.drift(1);
        states[3] = Check.state(x);
        x.start();
        states[4] = Check.state(x);
        x.exchange(2);
        due("five", x.told(9), 5);
        due("refused ones are none", x.exchange(3), UNKNOWN);
        due("five", x.told(9), 5);
        int[] exchanges = {0, 1, 2, 3, 0};
        for (int deed = 4; deed >= 0; deed--) {
            due("undo", x.undo(1), exchanges[deed]);
            check.same("as ahead of " + deed, Check.state(x), states[deed]);
            due("what can be undone", x.told(9), deed);
            due("exchanges", x.told(3), exchanges[deed]);
        }
        due("no more", x.undo(1), NOT);
        x.drift(4);
        due("each of the times", x.told(9), 4);
        x.undo(3);
        due("each of the times", x.told(3), 1);
        Check.tell(x, NOT_WELL);
        due("since the text", x.told(9), 0);
        x.drift(3);
        due("each of the times, whatever came of it", x.told(9), 3);
        due("start() is one, too", x.start() + x.told(9), 4);
        x.keep(0);
        due("since the image that was kept", x.told(9), 0);
        x.drift(2);
        x.goBack(0);
        due("since the image that was gone back to", x.told(9), 0);
    }

    private static void twentyAreKept() {
        check.sentence("(20 at most are kept)");
        // The deeds of each length are undone, all that are kept, one by one and at once.
        for (int deeds = 18; deeds <= 43; deeds++) {
            LetterExchange x = Check.told("n2;b0111;x02;x13;");
            LetterExchange y = Check.told("n2;b0111;x02;x13;");
            int gone = Math.max(deeds - 20, 0);
            for (int deed = 0; deed < deeds; deed++) {
                if (deed < gone) y.exchange(deed % 2);
                x.exchange(deed % 2);
                due("kept", x.told(9), Math.min(deed + 1, 20));
            }
            due("more than are kept", x.undo(20), deeds < 20 ? NOT : gone);
            if (deeds < 20) x.undo(deeds);
            check.same("the oldest that is kept, " + deeds, Check.state(x), Check.state(y));
            due("none is left", x.undo(1), NOT);
            for (int deed = 0; deed < 20; deed++) x.exchange(deed % 2);
            for (int left = 19; left >= 0; left--) due("one by one", x.undo(1), gone + left);
            check.same("again", Check.state(x), Check.state(y));
        }
        LetterExchange z = new LetterExchange();
        z.drift(20);
        z.drift(20);
        due("by draws, too", z.told(9), 20);
        z.start();
        due("start, too", z.told(9), 20);
        due("all", z.undo(20), 21);
    }

    private static void seedStays() {
        check.sentence("are as ahead of them; THE SEED stays.");
        LetterExchange x = new LetterExchange();
        x.drift(5);
        int seed = seedOf(x);
        x.undo(5);
        due("the seed", seedOf(x), seed);
        due("no exchanges", x.told(3), 0);
        x.write(0, 19900);
        x.exchange(0);
        x.write(0, 19900);
        x.undo(1);
        due("the book stays, too", x.told(7), 2);
    }

    private static void undoBounds() {
        check.sentence("The n latest (1 .. 20) are undone: EXCHANGES. OUTSIDE, NOT: not so many.");
        LetterExchange x = new LetterExchange();
        for (int n : new int[] {LEAST, -1, 0, 21, 22, MOST}) due("nothing to undo, " + n, x.undo(n), OUTSIDE);
        for (int n : new int[] {1, 2, 20}) due("nothing to undo, " + n, x.undo(n), NOT);
        for (int deed = 0; deed < 20; deed++) {
            x.exchange(0);
            if (deed < 19) due("one too many", x.undo(deed + 2), NOT);
        }
        for (int n : new int[] {LEAST, -1, 0, 21, 22, MOST}) due("twenty, " + n, x.undo(n), OUTSIDE);
        due("twenty still", x.told(9), 20);
        due("one", x.undo(1), 19);
        due("twenty of nineteen", x.undo(20), NOT);
        due("nineteen", x.undo(19), 0);
        due("none", x.undo(1), NOT);
    }

    private static void startBounds() {
        check.sentence("All is as the text told: EXCHANGES there were.");
        LetterExchange x = Check.told("n3;b0121;x19;");
        int[] told = Check.state(x);
        due("none", x.start(), 0);
        x.exchange(0);
        x.exchange(1);
        x.drift(3);
        int seed = seedOf(x);
        x.write(2, 3);
        due("five", x.start(), 5);
        check.same("as told", Check.state(x), told);
        due("no exchanges", x.told(3), 0);
        due("again", x.start(), 0);
        due("the seed is not told by the text", seedOf(x), seed);
        due("nor is the book", x.told(7), 1);
        x.exchange(0);
        x.keep(0);
        x.start();
        x.goBack(0);
        due("behind an image", x.start(), 1);
        check.same("as told", Check.state(x), told);
        Check.tell(x, NOT_WELL);
        due("not well", x.start(), 0);
        due("a deed", x.told(9), 1);
    }

    private static void imagesKeep() {
        check.sentence("IMAGES 0, 1 keep WORTHS, THE TABLE, ROWS, EXCHANGES, THE SEED.");
        LetterExchange x = Check.told("n3;b0111;b1212;x27;");
        x.seed(100);
        x.exchange(1);
        x.keep(0);
        int[] zero = Check.state(x);
        x.seed(200);
        x.exchange(2);
        x.exchange(0);
        x.keep(1);
        int[] one = Check.state(x);
        x.write(0, 9);
        x.drift(7);
        x.start();
        x.goBack(0);
        image(x, zero, 1, 100);
        x.drift(3);
        x.goBack(1);
        image(x, one, 3, 200);
        x.exchange(0);
        x.goBack(1);
        image(x, one, 3, 200);
        x.goBack(0);
        image(x, zero, 1, 100);
        x.goBack(1);
        x.seed(MOST);
        x.keep(0);
        x.start();
        x.goBack(0);
        image(x, one, 3, MOST);
        due("the book is not kept", x.told(7), 1);
    }

    private static void image(LetterExchange x, int[] state, int exchanges, int seed) {
        check.same("the state", Check.state(x), state);
        due("exchanges", x.told(3), exchanges);
        due("the seed", seedOf(x), seed);
        due("nothing can be undone", x.told(9), 0);
    }

    private static void seedBounds() {
        check.sentence("THE SEED becomes v (0 .. 2147483647): what it was. OUTSIDE.");
        LetterExchange x = new LetterExchange();
        due("most", x.seed(2147483647), 0);
        due("-1", x.seed(-1), OUTSIDE);
        due("least", x.seed(LEAST), OUTSIDE);
        due("0", x.seed(0), 2147483647);
        due("1", x.seed(1), 0);
        due("0 again", x.seed(0), 1);
        due("no deed", x.told(9), 0);
    }

    private static void keepBounds() {
        check.sentence("IMAGE i becomes what is so (nothing can be undone then): 1. UNKNOWN.");
        LetterExchange x = new LetterExchange();
        x.exchange(0);
        for (int i : new int[] {LEAST, -1, 2, 3, MOST}) {
            due("keep " + i, x.keep(i), UNKNOWN);
            due("one can be undone", x.told(9), 1);
        }
        due("keep 1", x.keep(1), 1);
        due("nothing can be undone", x.told(9), 0);
        due("undo", x.undo(1), NOT);
        due("the other is not kept", x.goBack(0), NOT);
        due("keep 0", x.keep(0), 1);
        due("image 0", x.goBack(0), 1);
        due("image 1", x.goBack(1), 1);
        due("it was exchanged", x.told(3), 1);
    }

    private static void goBackBounds() {
        check.sentence("What is so becomes IMAGE i (nothing can be undone then): 1. UNKNOWN, NOT: it was not kept.");
        LetterExchange x = new LetterExchange();
        x.exchange(0);
        for (int i : new int[] {LEAST, -1, 2, 3, MOST}) due("goBack " + i, x.goBack(i), UNKNOWN);
        due("not kept, 0", x.goBack(0), NOT);
        due("not kept, 1", x.goBack(1), NOT);
        due("one can be undone", x.told(9), 1);
        x.keep(0);
        x.exchange(1);
        due("still not kept", x.goBack(1), NOT);
        due("one can be undone", x.told(9), 1);
        due("back", x.goBack(0), 1);
        due("nothing can be undone", x.told(9), 0);
        due("undo", x.undo(1), NOT);
        due("again", x.goBack(0), 1);
        Check.tell(x, "n2");
        due("behind a text with a fault", x.goBack(0), 1);
        Check.tell(x, "n2;");
        due("behind a text", x.goBack(0), NOT);
    }
}
