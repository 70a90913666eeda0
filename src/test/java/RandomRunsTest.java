import java.util.ArrayList;
import java.util.Arrays;
import java.util.List;
import java.util.Map;
import java.util.Random;
import java.util.TreeMap;

/** Runs of drawn calls, the same ones each time, on LetterExchange and on the Model. */
public final class RandomRunsTest {
    private static final String[] CALLS = {
        "feed", "letters", "fault", "told", "told", "told", "table", "table", "letter", "letter", "letter",
        "row", "row", "row", "byTurns", "byTurns", "exchange", "exchange", "exchange", "exchange", "start",
        "drift", "drift", "undo", "undo", "stand", "next", "away", "standRow", "write", "write", "tear",
        "seed", "keep", "goBack"
    };

    private final Check check = new Check("RandomRunsTest");
    private final Map<String, Integer> seen = new TreeMap<>();
    private Random random;
    private LetterExchange x;
    private Model model;
    private int run;
    private int calls;

    public static void main(String[] args) {
        new RandomRunsTest().runAll(args.length > 0 ? Integer.parseInt(args[0]) : 1500);
    }

    private void runAll(int runs) {
        for (run = 0; run < runs; run++) {
            random = new Random(run);
            x = new LetterExchange();
            model = new Model();
            calls = 0;
            oneRun();
            model.seen.forEach((what, often) -> seen.merge(what, often, Integer::sum));
        }
        System.out.println(seen);
        for (String what : Arrays.asList("fault 1", "fault 2", "fault 3", "fault 4", "text WELL", "text not WELL",
                "exchanged", "refused: not WELL", "refused: worth", "refused: table", "refused: D", "refused: C",
                "refused: G", "OPEN: not WELL", "OPEN: too much", "WALKED to the end", "turns home",
                "turns beyond 99", "undone", "gone back")) {
            check.holds("came by: " + what, seen.containsKey(what));
        }
        check.end();
    }

    private void oneRun() {
        if (random.nextInt(10) > 0) tell(goodText());
        int most = 60 + random.nextInt(400);
        while (calls < most) {
            int dice = random.nextInt(100);
            if (dice < 1) tell(goodText());
            else if (dice < 2) tell(badText());
            else if (dice < 4) look();
            else oneCall();
        }
    }

    private void oneCall() {
        String name = CALLS[random.nextInt(CALLS.length)];
        switch (name) {
            case "feed": ask(name, random.nextInt(8) == 0 ? odd() : random.nextInt(256)); break;
            case "told": ask(name, random.nextInt(12) - 1); break;
            case "table": case "byTurns": case "next": ask(name, small(), small()); break;
            case "letter": ask(name, small(), random.nextInt(9) - 1); break;
            case "row": ask(name, small(), random.nextInt(10) == 0 ? odd() : random.nextInt(3), small()); break;
            case "exchange": ask(name, small()); break;
            case "drift": case "undo": ask(name, random.nextInt(6) == 0 ? random.nextInt(23) - 1 : 1 + random.nextInt(4)); break;
            case "stand": ask(name, random.nextInt(20) - 1, random.nextInt(5) - 1); break;
            case "away": ask(name, random.nextInt(10) - 1); break;
            case "standRow": ask(name, random.nextInt(60) - 1, small(), small()); break;
            case "write": { int i = small(); ask(name, i, random.nextInt(3) == 0 ? odd() : codeOf(i)); break; }
            case "seed": ask(name, random.nextInt(3) == 0 ? odd() : random.nextInt() & 0x7fffffff); break;
            case "keep": case "goBack": ask(name, random.nextInt(8) == 0 ? odd() : random.nextInt(2)); break;
            default: ask(name); break;
        }
    }

    /** All that can be seen without walking, of every LETTER. */
    private void look() {
        int n = ask("told", 0);
        for (int i = 0; i < n; i++) {
            for (int what = 0; what < 7; what++) ask("letter", i, what);
            for (int k = 0; k < n; k++) {
                ask("table", i, k);
                for (int which = 0; which < 3; which++) ask("row", i, which, k);
                if (k != i) ask("byTurns", i, k);
            }
        }
        for (int what = 0; what < 10; what++) ask("told", what);
        for (int s = 0; s < 6; s++) ask("stand", random.nextInt(60), s % 3);
    }

    /** An index of a LETTER, mostly one that there is. */
    private int small() {
        if (random.nextInt(60) == 0) return odd();
        return random.nextInt(20) == 0 ? random.nextInt(6) - 1 : random.nextInt(model.call("told", 0));
    }

    private int odd() {
        int[] odds = {Integer.MIN_VALUE, Integer.MAX_VALUE, -1, 256, 255, 0, 1, 2, 3, 4, 5, 100, -2, 1000000};
        return odds[random.nextInt(odds.length)];
    }

    private int codeOf(int i) {
        int n = model.call("told", 0);
        int code = 0;
        for (int k = 0; k < n; k++) {
            int number = model.call("row", i, 0, k);
            if (number < 0) return 0;
            code = code * 200 + number - 900;
        }
        return code;
    }

    private void tell(String text) {
        ask("letters");
        for (int i = 0; i < text.length(); i++) {
            if (random.nextInt(20) == 0) ask("feed", 32);
            ask("feed", text.charAt(i));
        }
        ask("letters");
        ask("fault");
    }

    private String goodText() {
        int n = 2 + random.nextInt(3);
        int kind = random.nextInt(4);
        StringBuilder text = new StringBuilder("n" + n + ";");
        List<String> clauses = new ArrayList<>();
        for (int i = 0; i < n; i++) {
            for (int j = 0; j < i; j++) {
                if (random.nextInt(n) > 1) continue;
                boolean turned = random.nextBoolean();
                int u = kind == 0 || random.nextInt(3) > 0 ? 1 : 1 + random.nextInt(3);
                int v = kind <= 1 ? u : random.nextInt(3) > 0 ? 1 : 1 + random.nextInt(3);
                if (random.nextInt(30) == 0) u = v = 0;
                clauses.add("b" + (turned ? "" + i + j : "" + j + i) + u + v + ";");
            }
            if (random.nextInt(4) == 0) clauses.add("x" + i + (1 + random.nextInt(9)) + ";");
        }
        while (!clauses.isEmpty()) text.append(clauses.remove(random.nextInt(clauses.size())));
        return text.toString();
    }

    /** A good text with a sign changed, put in or taken away. */
    private String badText() {
        StringBuilder text = new StringBuilder(goodText());
        String signs = "nbx;0123456789 q\t";
        for (int times = 1 + random.nextInt(2); times > 0 && text.length() > 0; times--) {
            int at = random.nextInt(text.length());
            char sign = signs.charAt(random.nextInt(signs.length()));
            int how = random.nextInt(4);
            if (how == 0) text.insert(at, sign);
            else if (how == 1) text.deleteCharAt(at);
            else if (how == 2) text.setCharAt(at, sign);
            else text.setLength(at);
        }
        return text.toString();
    }

    private int ask(String name, int... a) {
        calls++;
        int want = model.call(name, a);
        check.due("run " + run + ", call " + calls + ": " + name + Arrays.toString(a), Check.call(x, name, a), want);
        return want;
    }
}
