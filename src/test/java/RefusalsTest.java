import java.util.ArrayList;
import java.util.List;

/**
 * What the document says of REFUSALS: their order, their numbers, and that what is refused changes nothing. For
 * the last one two objects go the same way, one of them with the refused call; behind it all that can be seen and
 * all that can be done must be the same.
 */
public final class RefusalsTest {
    private static final int NONE = LetterExchange.NONE;
    private static final int UNKNOWN = LetterExchange.UNKNOWN;
    private static final int OUTSIDE = LetterExchange.OUTSIDE;
    private static final int NOT = LetterExchange.NOT;
    private static final int FULL = LetterExchange.FULL;
    private static final int LEAST = Integer.MIN_VALUE;
    private static final int MOST = Integer.MAX_VALUE;
    private static final int BUSY = 0;
    private static final int CRAMMED = 1;
    private static final int NOT_WELL = 2;
    private static final int NEW = 3;

    private static final Check check = new Check("RefusalsTest");

    public static void main(String[] args) {
        numbers();
        fromZeroOn();
        order();
        changesNothing();
        check.end();
    }

    private static void numbers() {
        check.sentence("They are far below all that is counted: -1000000001 and on.");
        check.due("UNKNOWN", UNKNOWN, -1000000001);
        check.due("OUTSIDE", OUTSIDE, -1000000002);
        check.due("NOT", NOT, -1000000003);
        check.due("FULL", FULL, -1000000004);
        check.sentence("NONE is -1.");
        check.due("NONE", NONE, -1);
    }

    private static void fromZeroOn() {
        check.sentence("What has a number has it from 0 on.");
        LetterExchange x = Check.told("n4;");
        check.due("the first letter", x.letter(0, 0), 1);
        check.due("none ahead of it", x.letter(-1, 0), UNKNOWN);
        check.due("the last letter", x.letter(3, 0), 1);
        check.due("none behind it", x.letter(4, 0), UNKNOWN);
        check.due("the first stand", x.stand(0, 0), 0);
        check.due("none ahead of it", x.stand(-1, 0), UNKNOWN);
        check.due("the last stand", x.stand(15, 0), 4);
        check.due("none behind it", x.stand(16, 0), UNKNOWN);
        check.due("the first image", x.keep(0), 1);
        check.due("none ahead of it", x.keep(-1), UNKNOWN);
        check.due("the last image", x.keep(1), 1);
        check.due("none behind it", x.keep(2), UNKNOWN);
        check.due("the first entry", x.write(0, 0) * 0 + x.told(8), 0);
        Check.tell(x, "q");
        check.due("the first letter of a text", x.fault(), 0);
    }

    private static void order() {
        check.sentence("REFUSALS, of several the first in this order: UNKNOWN");
        LetterExchange x = make(BUSY);
        check.due("letter", x.letter(2, 7), UNKNOWN);
        check.due("row, which", x.row(2, 3, 0), UNKNOWN);
        check.due("row, k", x.row(2, 0, 2), UNKNOWN);
        check.due("stand, open", x.stand(0, 3), UNKNOWN);
        check.due("standRow, open", x.standRow(0, 0, 2), UNKNOWN);
        check.due("exchange, though a letter would be refused", x.exchange(2), UNKNOWN);
        check.due("goBack, not kept", x.goBack(2), UNKNOWN);
        LetterExchange y = new LetterExchange();
        check.due("stand", y.stand(5, 3), UNKNOWN);
        check.due("standRow, the stand", y.standRow(5, 0, 2), UNKNOWN);
        check.due("standRow, the letter", y.standRow(0, 2, 2), UNKNOWN);
        check.due("byTurns, not one and the same", y.byTurns(2, 2), UNKNOWN);
        check.due("goBack, not kept", y.goBack(-1), UNKNOWN);
        check.due("write, full", make(CRAMMED).write(2, 0), UNKNOWN);
        check.due("exchange, not well", make(NOT_WELL).exchange(3), UNKNOWN);
        check.sentence("OUTSIDE (another number out of its bounds), NOT (not now, as told), FULL.");
        check.due("undo 0, nothing to undo", y.undo(0), OUTSIDE);
        check.due("undo 21, nothing to undo", y.undo(21), OUTSIDE);
        check.due("feed, full", make(CRAMMED).feed(256), OUTSIDE);
        check.due("feed, full", make(CRAMMED).feed(-1), OUTSIDE);
        check.due("undo, NOT", y.undo(20), NOT);
        check.due("feed, FULL", make(CRAMMED).feed(0), FULL);
    }

    private static void changesNothing() {
        check.sentence("What is refused changes nothing.");
        for (int object : new int[] {BUSY, CRAMMED, NOT_WELL, NEW}) {
            int n = object == NOT_WELL ? 3 : 2;
            for (int i : new int[] {LEAST, -1, n, MOST}) {
                refused(object, UNKNOWN, "table", i, 0);
                refused(object, UNKNOWN, "table", 0, i);
                refused(object, UNKNOWN, "letter", i, 5);
                refused(object, UNKNOWN, "row", i, 0, 0);
                refused(object, UNKNOWN, "byTurns", i, 0);
                refused(object, UNKNOWN, "byTurns", 0, i);
                refused(object, UNKNOWN, "exchange", i);
                refused(object, UNKNOWN, "next", 0, i);
                refused(object, UNKNOWN, "standRow", 0, i, 0);
                refused(object, UNKNOWN, "write", i, 0);
                refused(object, OUTSIDE, "row", 0, 0, i);
            }
            for (int i : new int[] {LEAST, -1, 2, MOST}) {
                refused(object, UNKNOWN, "keep", i);
                refused(object, UNKNOWN, "goBack", i);
            }
            for (int s : new int[] {LEAST, -1, 200, MOST}) {
                refused(object, UNKNOWN, "stand", s, 0);
                refused(object, UNKNOWN, "next", s, 0);
                refused(object, UNKNOWN, "standRow", s, 0, 0);
            }
            refused(object, UNKNOWN, "byTurns", 1, 1);
            for (int number : new int[] {LEAST, -1, 256, MOST}) {
                refused(object, OUTSIDE, "feed", number);
                refused(object, OUTSIDE, "told", number);
                refused(object, OUTSIDE, "letter", 1, number);
                refused(object, OUTSIDE, "row", 1, number, 0);
                refused(object, OUTSIDE, "drift", number);
                refused(object, OUTSIDE, "undo", number);
            }
            refused(object, OUTSIDE, "drift", 0);
            refused(object, OUTSIDE, "drift", 21);
            refused(object, OUTSIDE, "undo", 0);
            refused(object, OUTSIDE, "undo", 21);
            refused(object, OUTSIDE, "seed", -1);
            refused(object, OUTSIDE, "seed", LEAST);
            refused(object, NOT, "undo", 20);
        }
        refused(NEW, OUTSIDE, "stand", 0, 3);
        refused(NEW, OUTSIDE, "standRow", 0, 0, 2);
        refused(NEW, NOT, "undo", 1);
        refused(NEW, NOT, "goBack", 0);
        refused(BUSY, NOT, "undo", 4);
        refused(BUSY, NOT, "goBack", 1);
        refused(BUSY, NOT, "exchange", 1);
        refused(BUSY, NONE, "letter", 1, 5);
        refused(BUSY, NONE, "byTurns", 0, 1);
        refused(BUSY, NONE, "away", 0);
        refused(NOT_WELL, NOT, "exchange", 0);
        refused(NOT_WELL, NONE, "letter", 0, 6);
        refused(NOT_WELL, NONE, "byTurns", 0, 1);
        refused(CRAMMED, FULL, "feed", 'q');
        refused(CRAMMED, FULL, "write", 0, 7);
    }

    private static void refused(int object, int due, String name, int... a) {
        String label = name + (a.length > 0 ? " " + a[0] : "") + (a.length > 1 ? " " + a[1] : "") + " of object " + object;
        LetterExchange x = make(object);
        check.due(label, Check.call(x, name, a), due);
        check.same("all behind " + label, behind(x), behind(make(object)));
    }

    private static LetterExchange make(int object) {
        switch (object) {
            case BUSY: return busy();
            case CRAMMED: return crammed();
            case NOT_WELL: return notWell();
            default: return new LetterExchange();
        }
    }

    /** An image, three deeds since, two entries, half a text, a fault; 1 cannot be EXCHANGED; OPEN. */
    private static LetterExchange busy() {
        LetterExchange x = Check.told("n2;b0133;");
        x.seed(5);
        Check.tell(x, "n5");
        x.exchange(1);
        x.keep(0);
        x.exchange(0);
        x.exchange(1);
        x.exchange(0);
        x.write(1, 20101);
        x.write(0, 7);
        Check.feed(x, "n3;x09;b0");
        return x;
    }

    /** A full text, a full book, both images. */
    private static LetterExchange crammed() {
        LetterExchange x = Check.told("n2;b0121;x17;");
        x.drift(3);
        x.keep(1);
        x.drift(2);
        x.keep(0);
        x.exchange(0);
        for (int entry = 0; entry < 20; entry++) x.write(entry % 2, 19900 + entry);
        Check.feed(x, "n2;x05;x16;" + " ".repeat(86) + "x1");
        x.feed('8');
        return x;
    }

    private static LetterExchange notWell() {
        LetterExchange x = Check.told("n3;b0112;b1212;b2012;x24;");
        x.drift(2);
        x.keep(1);
        x.drift(1);
        x.write(2, 4000099);
        Check.feed(x, "n");
        return x;
    }

    /** All that can be seen of an object, and of what can be done with it. */
    private static int[] behind(LetterExchange x) {
        List<Integer> seen = new ArrayList<>();
        look(x, seen);
        add(seen, x.undo(1), x.told(3));
        state(x, seen);
        add(seen, x.goBack(0), x.told(3), x.seed(17));
        state(x, seen);
        add(seen, x.goBack(1), x.told(3));
        state(x, seen);
        add(seen, x.drift(2), x.told(9), x.undo(2), x.told(9));
        add(seen, x.start(), x.told(8), x.tear(), x.seed(3));
        state(x, seen);
        add(seen, x.feed(';'), x.letters(), x.fault());
        look(x, seen);
        int[] all = new int[seen.size()];
        for (int i = 0; i < all.length; i++) all[i] = seen.get(i);
        return all;
    }

    private static void add(List<Integer> seen, int... answers) {
        for (int answer : answers) seen.add(answer);
    }

    private static void state(LetterExchange x, List<Integer> seen) {
        add(seen, Check.state(x));
    }

    private static void look(LetterExchange x, List<Integer> seen) {
        for (int what = 0; what <= 9; what++) add(seen, x.told(what));
        add(seen, x.fault());
        state(x, seen);
        for (int i = 0; i < x.told(0); i++) {
            for (int what = 2; what <= 6; what++) add(seen, x.letter(i, what));
            add(seen, x.byTurns(i, (i + 1) % x.told(0)));
        }
        for (int s = 0; s < 5; s++) {
            add(seen, x.stand(s, 0), x.stand(s, 1), x.stand(s, 2), x.next(s, 0), x.next(s, 1), x.away(s));
            add(seen, x.standRow(s, 0, 0), x.standRow(s, 1, 1));
        }
    }
}
