/** What the tests share: counting wrong answers, and telling them. */
final class Check {
    private final String name;
    private int asked = 0;
    private int wrong = 0;

    Check(String name) {
        this.name = name;
    }

    void due(String what, long got, long want) {
        asked++;
        if (got != want) {
            wrong++;
            System.out.println(name + ": " + what + " answered " + got + ", due is " + want);
        }
    }

    void holds(String what, boolean is) {
        asked++;
        if (!is) {
            wrong++;
            System.out.println(name + ": does not hold: " + what);
        }
    }

    /** Ends the test with exit code 1 if something was wrong. */
    void end() {
        System.out.println(name + ": " + asked + " asked, " + wrong + " wrong");
        if (wrong != 0 || asked == 0) {
            System.exit(1);
        }
    }

    /** A new object that has taken the text; the text must have no FAULT. */
    static LetterExchange told(String text) {
        LetterExchange x = new LetterExchange();
        int letters = tell(x, text);
        if (letters < 2) {
            throw new IllegalStateException("the text " + text + " was not taken: " + letters);
        }
        return x;
    }

    static int tell(LetterExchange x, String text) {
        for (int i = 0; i < text.length(); i++) {
            x.feed(text.charAt(i));
        }
        return x.letters();
    }
}
