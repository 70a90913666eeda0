import java.io.IOException;
import java.nio.file.Files;
import java.nio.file.Path;
import java.util.Arrays;

/** What the tests share: counting wrong answers, and telling them. */
final class Check {
    private static final Path DOCUMENT = Path.of("../shared/DOC.md");

    private final String name;
    private String document = null;
    private String saying = "";
    private int sentences = 0;
    private int asked = 0;
    private int wrong = 0;

    Check(String name) {
        this.name = name;
    }

    /** The words of the document that what is asked from here on tests; they must stand in it. */
    void sentence(String words) {
        if (document == null) {
            document = read();
        }
        saying = "\"" + words + "\": ";
        sentences++;
        holds("it stands in the document", document.contains(words));
    }

    private static String read() {
        try {
            return Files.readString(DOCUMENT).replaceAll("\\s+", " ");
        } catch (IOException e) {
            throw new IllegalStateException("the document cannot be read: " + e);
        }
    }

    void due(String what, long got, long want) {
        asked++;
        if (got != want) {
            wrong++;
            System.out.println(name + ": " + saying + what + " answered " + got + ", due is " + want);
        }
    }

    void holds(String what, boolean is) {
        asked++;
        if (!is) {
            wrong++;
            System.out.println(name + ": " + saying + "does not hold: " + what);
        }
    }

    void same(String what, int[] got, int[] want) {
        asked++;
        if (!Arrays.equals(got, want)) {
            wrong++;
            System.out.println(name + ": " + saying + what + " answered " + Arrays.toString(got)
                    + ", due is " + Arrays.toString(want));
        }
    }

    /** Ends the test with exit code 1 if something was wrong. */
    void end() {
        String tested = sentences > 0 ? sentences + " sentences, " : "";
        System.out.println(name + ": " + tested + asked + " asked, " + wrong + " wrong");
        if (wrong != 0 || asked == 0) {
            System.exit(1);
        }
    }

    /** A new object that has taken the text; the text must have no FAULT. */
    static LetterExchange told(String text) {
        LetterExchange x = new LetterExchange();
        int letters = tell(x, text);
        if (letters < 2) {
            throw new IllegalStateException("the text " + text + " was not taken: " + letters);
        }
        return x;
    }

    static int tell(LetterExchange x, String text) {
        feed(x, text);
        return x.letters();
    }

    static void feed(LetterExchange x, String text) {
        for (int i = 0; i < text.length(); i++) {
            x.feed(text.charAt(i));
        }
    }

    /** A new object that has taken the text and the exchanges, one figure each; none may be refused. */
    static LetterExchange exchanged(String text, String path) {
        LetterExchange x = told(text);
        for (int i = 0; i < path.length(); i++) {
            if (x.exchange(path.charAt(i) - '0') < 0) {
                throw new IllegalStateException("refused: " + text + " " + path + " at " + i);
            }
        }
        return x;
    }

    /** WORTHS, THE TABLE and ROWS, one behind the other. */
    static int[] state(LetterExchange x) {
        int n = x.told(0);
        int[] seen = new int[n * (2 + 4 * n)];
        int at = 0;
        for (int i = 0; i < n; i++) {
            seen[at++] = x.letter(i, 0);
            seen[at++] = x.letter(i, 1);
            for (int k = 0; k < n; k++) {
                seen[at++] = x.table(i, k);
                for (int which = 0; which < 3; which++) {
                    seen[at++] = x.row(i, which, k);
                }
            }
        }
        return seen;
    }

    static int call(LetterExchange x, String name, int... a) {
        switch (name) {
            case "feed": return x.feed(a[0]);
            case "letters": return x.letters();
            case "fault": return x.fault();
            case "told": return x.told(a[0]);
            case "table": return x.table(a[0], a[1]);
            case "letter": return x.letter(a[0], a[1]);
            case "row": return x.row(a[0], a[1], a[2]);
            case "byTurns": return x.byTurns(a[0], a[1]);
            case "exchange": return x.exchange(a[0]);
            case "start": return x.start();
            case "drift": return x.drift(a[0]);
            case "undo": return x.undo(a[0]);
            case "stand": return x.stand(a[0], a[1]);
            case "next": return x.next(a[0], a[1]);
            case "away": return x.away(a[0]);
            case "standRow": return x.standRow(a[0], a[1], a[2]);
            case "write": return x.write(a[0], a[1]);
            case "tear": return x.tear();
            case "seed": return x.seed(a[0]);
            case "keep": return x.keep(a[0]);
            case "goBack": return x.goBack(a[0]);
            default: throw new IllegalStateException(name);
        }
    }
}
