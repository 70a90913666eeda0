import java.math.BigInteger;
import java.util.ArrayDeque;
import java.util.ArrayList;
import java.util.Arrays;
import java.util.HashMap;
import java.util.HashSet;
import java.util.List;
import java.util.Map;
import java.util.Set;
import java.util.TreeMap;

/**
 * The document once more, written for tests alone: slow, with the whole Java library, nothing kept
 * that can be found anew. RandomRunsTest compares LetterExchange with it, call by call.
 */
final class Model {
    static final int NONE = -1;
    static final int UNKNOWN = -1000000001;
    static final int OUTSIDE = -1000000002;
    static final int NOT = -1000000003;
    static final int FULL = -1000000004;
    private static final BigInteger BILLION = BigInteger.valueOf(1000000000L);

    /** How often each thing of note happened, so that a test can see that its runs came by. */
    final Map<String, Integer> seen = new TreeMap<>();

    private static final class Snap {
        int n;
        BigInteger[][] worth;
        int[][] b;
        int[][] d;
        int[][] c;
        int[][] g;
        int exchanges;

        Snap(int n) {
            this.n = n;
            worth = new BigInteger[n][2];
            b = new int[n][n];
            d = new int[n][n];
            c = new int[n][n];
            g = new int[n][n];
            for (int i = 0; i < n; i++) {
                worth[i][0] = worth[i][1] = BigInteger.ONE;
                d[i][i] = -1;
                c[i][i] = g[i][i] = 1;
            }
        }

        Snap copy() {
            Snap s = new Snap(n);
            for (int i = 0; i < n; i++) {
                s.worth[i] = worth[i].clone();
                s.b[i] = b[i].clone();
                s.d[i] = d[i].clone();
                s.c[i] = c[i].clone();
                s.g[i] = g[i].clone();
            }
            s.exchanges = exchanges;
            return s;
        }
    }

    private static final class Refused extends Exception {
        private static final long serialVersionUID = 1L;

        final String detail;

        Refused(String why, String detail) {
            super(why);
            this.detail = detail;
        }
    }

    private StringBuilder text = new StringBuilder();
    private int faultPlace = NONE;
    private Snap now;
    private Snap first;
    private ArrayDeque<Snap> deeds = new ArrayDeque<>();
    private List<int[]> book = new ArrayList<>();
    private long seed = 0;
    private Snap[] images = new Snap[2];
    private long[] imageSeeds = new long[2];

    Model() {
        first = new Snap(2);
        first.b[0][1] = 1;
        first.b[1][0] = -1;
        now = first.copy();
    }

    private void note(String what) {
        seen.merge(what, 1, Integer::sum);
    }

    int call(String name, int... a) {
        switch (name) {
            case "feed": return feed(a[0]);
            case "letters": return letters();
            case "fault": return faultPlace;
            case "told": return told(a[0]);
            case "table": return letter(a[0]) && letter(a[1]) ? now.b[a[0]][a[1]] + 1000 : UNKNOWN;
            case "letter": return ofLetter(a[0], a[1]);
            case "row": return row(a[0], a[1], a[2]);
            case "byTurns": return byTurns(a[0], a[1]);
            case "exchange": return exchange(a[0]);
            case "start": return start();
            case "drift": return drift(a[0]);
            case "undo": return undo(a[0]);
            case "stand": return stand(a[0], a[1]);
            case "next": return next(a[0], a[1]);
            case "away": return away(a[0]);
            case "standRow": return standRow(a[0], a[1], a[2]);
            case "write": return write(a[0], a[1]);
            case "tear": { int had = book.size(); book.clear(); return had; }
            case "seed": { if (a[0] < 0) return OUTSIDE; int was = (int) seed; seed = a[0]; return was; }
            case "keep": return keep(a[0]);
            case "goBack": return goBack(a[0]);
            default: throw new IllegalStateException(name);
        }
    }

    private boolean letter(int i) {
        return i >= 0 && i < now.n;
    }

    private int feed(int sign) {
        if (sign < 0 || sign > 255) return OUTSIDE;
        if (text.length() == 100) return FULL;
        text.append((char) sign);
        return text.length();
    }

    // The text is turned into its signs with their places, and an end mark behind them.
    private int letters() {
        List<int[]> signs = new ArrayList<>();
        for (int i = 0; i < text.length(); i++) {
            if (text.charAt(i) != ' ') signs.add(new int[] {text.charAt(i), i});
        }
        signs.add(new int[] {-1, text.length()});
        text = new StringBuilder();
        String form = "";   // what is still due in the clause: one sign each
        Snap s = null;
        int[] got = new int[5];
        int filled = 0;
        int word = 0;
        for (int[] sign : signs) {
            int fault = 0;
            if (form.isEmpty()) {
                word = sign[0];
                filled = 0;
                if (word == -1) fault = s == null ? 1 : 0;
                else if (word == 'n') { form = "N;"; fault = s == null ? 0 : 3; }
                else if (word == 'b') { form = "IJUV;"; fault = s == null ? 1 : 0; }
                else if (word == 'x') { form = "IW;"; fault = s == null ? 1 : 0; }
                else fault = 1;
            } else {
                char due = form.charAt(0);
                form = form.substring(1);
                if (due == ';') {
                    fault = sign[0] == ';' ? 0 : 1;
                    if (fault == 0 && word == 'b') {
                        s.b[got[0]][got[1]] = got[2];
                        s.b[got[1]][got[0]] = -got[3];
                    }
                    if (fault == 0 && word == 'x') s.worth[got[0]][0] = BigInteger.valueOf(got[1]);
                } else if (sign[0] < '0' || sign[0] > '9') {
                    fault = 1;
                } else {
                    int v = sign[0] - '0';
                    boolean in = due == 'N' ? v >= 2 && v <= 4
                            : due == 'I' || due == 'J' ? v < s.n
                            : due == 'W' ? v >= 1 : v <= 3;
                    if (!in) fault = 2;
                    else if (due == 'J' && v == got[0]) fault = 4;
                    else if (due == 'V' && (v == 0) != (got[2] == 0)) fault = 4;
                    got[filled++] = v;
                    if (due == 'N' && fault == 0) s = new Snap(v);
                }
            }
            if (fault != 0) {
                faultPlace = sign[1];
                note("fault " + fault);
                return -10 - fault;
            }
        }
        faultPlace = NONE;
        first = s;
        now = s.copy();
        deeds.clear();
        book.clear();
        images = new Snap[2];
        note(weights() == null ? "text not WELL" : "text WELL");
        return s.n;
    }

    private int[] weights() {
        int n = now.n;
        for (int all = 0; all < Math.pow(9, n); all++) {
            int[] w = new int[n];
            int rest = all;
            for (int i = n - 1; i >= 0; i--) {
                w[i] = rest % 9 + 1;
                rest /= 9;
            }
            boolean fits = true;
            for (int i = 0; i < n; i++) {
                for (int j = 0; j < n; j++) fits &= w[i] * now.b[i][j] == -w[j] * now.b[j][i];
            }
            if (fits) return w;
        }
        return null;
    }

    private static BigInteger[] lowest(BigInteger above, BigInteger below, String step) throws Refused {
        BigInteger g = above.gcd(below);
        BigInteger[] f = {above.divide(g), below.divide(g)};
        if (f[0].compareTo(BILLION) > 0) throw new Refused("worth", step + " above " + f[0]);
        if (f[1].compareTo(BILLION) > 0) throw new Refused("worth", step + " below " + f[1]);
        return f;
    }

    private static BigInteger[] newWorth(Snap s, int k) throws Refused {
        BigInteger[][] pq = new BigInteger[2][];
        for (int side = 0; side < 2; side++) {
            pq[side] = new BigInteger[] {BigInteger.ONE, BigInteger.ONE};
            for (int i = 0; i < s.n; i++) {
                int times = side == 0 ? s.b[i][k] : -s.b[i][k];
                for (int t = 0; t < times; t++) {
                    pq[side] = lowest(pq[side][0].multiply(s.worth[i][0]), pq[side][1].multiply(s.worth[i][1]),
                            side == 0 ? "P" : "Q");
                }
            }
        }
        BigInteger[] sum = lowest(pq[0][0].multiply(pq[1][1]).add(pq[1][0].multiply(pq[0][1])),
                pq[0][1].multiply(pq[1][1]), "sum");
        return lowest(sum[0].multiply(s.worth[k][1]), sum[1].multiply(s.worth[k][0]), "quotient");
    }

    private static int[][] newTable(int[][] b, int k) {
        int n = b.length;
        int[][] r = new int[n][n];
        for (int i = 0; i < n; i++) {
            for (int j = 0; j < n; j++) {
                if (i == k || j == k) r[i][j] = -b[i][j];
                else r[i][j] = b[i][j]
                        + Math.max(b[i][k], 0) * Math.max(b[k][j], 0)
                        - Math.min(b[i][k], 0) * Math.min(b[k][j], 0);
            }
        }
        return r;
    }

    private static int[][] newD(int[][] b, int[][] d, int k) {
        int n = b.length;
        int[][] r = new int[n][];
        for (int i = 0; i < n; i++) r[i] = d[i].clone();
        for (int m = 0; m < n; m++) {
            int plus = 0;
            int minus = 0;
            for (int i = 0; i < n; i++) {
                plus += Math.max(b[i][k], 0) * d[i][m];
                minus += Math.max(-b[i][k], 0) * d[i][m];
            }
            r[k][m] = (plus > minus ? plus : minus) - d[k][m];
        }
        return r;
    }

    private static void within(int[][] numbers, String why) throws Refused {
        int least = 0;
        int greatest = 0;
        for (int[] row : numbers) {
            for (int v : row) {
                least = Math.min(least, v);
                greatest = Math.max(greatest, v);
            }
        }
        String over = (greatest > 99 ? " " + greatest : "") + (least < -99 ? " " + least : "");
        if (!over.isEmpty()) throw new Refused(why, why + over);
    }

    /** THE TABLE and ROWS behind an EXCHANGE, whatever numbers come. */
    private static Snap coming(Snap s, int k) {
        Snap r = s.copy();
        r.b = newTable(s.b, k);
        r.d = newD(s.b, s.d, k);
        boolean green = false;
        for (int m = 0; m < s.n; m++) {
            int c = s.c[k][m];
            green |= c > 0;
            for (int j = 0; j < s.n; j++) {
                if (j == k) r.c[j][m] = -c;
                else if (c > 0 && s.b[k][j] > 0) r.c[j][m] += c * s.b[k][j];
                else if (c < 0 && s.b[k][j] < 0) r.c[j][m] -= c * s.b[k][j];
            }
        }
        for (int m = 0; m < s.n; m++) {
            int sum = 0;
            for (int i = 0; i < s.n; i++) sum += Math.max(green ? -s.b[i][k] : s.b[i][k], 0) * s.g[i][m];
            r.g[k][m] = sum - s.g[k][m];
        }
        return r;
    }

    private static Snap exchanged(Snap s, int k) throws Refused {
        Snap r = coming(s, k);
        within(r.b, "table");
        within(r.d, "D");
        within(r.c, "C");
        within(r.g, "G");
        r.worth[k] = newWorth(s, k);
        r.exchanges++;
        return r;
    }

    /** Why an EXCHANGE would be refused, every reason, as "D 100" or "sum above 1000000001"; empty: it is not. */
    List<String> reasons(int k) {
        Snap r = coming(now, k);
        int[][][] numbers = {r.b, r.d, r.c, r.g};
        String[] names = {"table", "D", "C", "G"};
        List<String> reasons = new ArrayList<>();
        for (int m = 0; m < numbers.length; m++) {
            try {
                within(numbers[m], names[m]);
            } catch (Refused e) {
                reasons.add(e.detail);
            }
        }
        try {
            newWorth(now, k);
        } catch (Refused e) {
            reasons.add(e.detail);
        }
        return reasons;
    }

    private Snap tried(int k) {
        if (weights() == null) {
            note("refused: not WELL");
            return null;
        }
        try {
            Snap r = exchanged(now, k);
            note("exchanged");
            return r;
        } catch (Refused e) {
            note("refused: " + e.getMessage());
            return null;
        }
    }

    private static Integer[] ranked(int[][] d) {
        Integer[] order = new Integer[d.length];
        for (int i = 0; i < order.length; i++) order[i] = i;
        Arrays.sort(order, (x, y) -> Arrays.compare(d[x], d[y]));   // stable: like ones by number
        return order;
    }

    private static int place(int[][] d, int i) {
        return Arrays.asList(ranked(d)).indexOf(i);
    }

    private int told(int what) {
        if (what < 0 || what > 9) return OUTSIDE;
        if (what >= 4 && what <= 6) {
            Walked w = walked();
            if (w == null) return NONE;
            return what == 4 ? w.list.size() : what == 5 ? w.rows.size() : w.far;
        }
        switch (what) {
            case 0: return now.n;
            case 1: return text.length();
            case 2: return weights() == null ? 0 : 1;
            case 3: return Math.min(now.exchanges, 99999);
            case 7: return book.size();
            case 8: return wrong();
            default: return deeds.size();
        }
    }

    private int wrong() {
        for (int e = 0; e < book.size(); e++) {
            long v = 0;
            for (int x : now.d[book.get(e)[0]]) v = v * 200 + x + 100;
            if (v != book.get(e)[1]) return e;
        }
        return NONE;
    }

    private int ofLetter(int i, int what) {
        if (!letter(i)) return UNKNOWN;
        if (what < 0 || what > 6) return OUTSIDE;
        if (what < 2) return now.worth[i][what].intValueExact();
        if (what == 2) return weights() == null ? NONE : weights()[i];
        if (what == 3) {
            int set = 0;
            for (int j = 0; j < now.n; j++) if (now.b[i][j] != 0) set += 1 << j;
            return set;
        }
        if (what == 4) return place(now.d, i);
        Snap r = tried(i);
        return r == null ? NONE : r.worth[i][what - 5].intValueExact();
    }

    private int row(int i, int which, int k) {
        if (!letter(i)) return UNKNOWN;
        if (which < 0 || which > 2 || !letter(k)) return OUTSIDE;
        return (which == 0 ? now.d : which == 1 ? now.c : now.g)[i][k] + 1000;
    }

    private static List<String> rankedRows(int[][] d) {
        List<String> rows = new ArrayList<>();
        for (int i : ranked(d)) rows.add(Arrays.toString(d[i]));
        return rows;
    }

    private int byTurns(int i, int j) {
        if (!letter(i) || !letter(j) || i == j) return UNKNOWN;
        if (weights() == null) return NONE;
        int[][] b = now.b;
        int[][] d = now.d;
        for (int t = 1; t <= 20; t++) {
            int k = t % 2 == 0 ? j : i;
            int[][] nd = newD(b, d, k);
            b = newTable(b, k);
            d = nd;
            try {
                within(b, "");
                within(d, "");
            } catch (Refused e) {
                note("turns beyond 99");
                return NONE;
            }
            if (rankedRows(d).equals(rankedRows(now.d))) {
                note("turns home");
                return t;
            }
        }
        note("turns too many");
        return NONE;
    }

    private int exchange(int k) {
        if (!letter(k)) return UNKNOWN;
        Snap r = tried(k);
        if (r == null) return NOT;
        deed();
        now = r;
        return place(now.d, k);
    }

    private void deed() {
        deeds.addLast(now.copy());
        if (deeds.size() > 20) deeds.removeFirst();
    }

    private int start() {
        int had = now.exchanges;
        deed();
        now = first.copy();
        return had;
    }

    private int drift(int times) {
        if (times < 1 || times > 20) return OUTSIDE;
        for (int t = 0; t < times; t++) {
            seed = (seed * 1103515245L + 12345L) % (1L << 31);
            int k = (int) (seed / 65536 % now.n);
            Snap r = tried(k);
            deed();
            if (r != null) now = r;
        }
        return now.exchanges;
    }

    private int undo(int times) {
        if (times < 1 || times > 20) return OUTSIDE;
        if (times > deeds.size()) return NOT;
        for (int t = 0; t < times; t++) now = deeds.removeLast();
        note("undone");
        return now.exchanges;
    }

    private static final class Stand {
        int[][] b;
        int[][] d;
        int steps;
        int from;
        int by;
        int[] next;
    }

    private static final class Walked {
        List<Stand> list = new ArrayList<>();
        Map<String, Integer> numbers = new HashMap<>();
        Set<String> rows = new HashSet<>();
        int far;
    }

    private static String key(int[][] b, int[][] d) {
        Integer[] order = ranked(d);
        StringBuilder key = new StringBuilder();
        for (int i : order) {
            key.append(Arrays.toString(d[i]));
            for (int j : order) key.append(' ').append(b[i][j]);
        }
        return key.toString();
    }

    private Walked walked() {
        Walked w = new Walked();
        if (weights() == null) {
            note("OPEN: not WELL");
            return null;
        }
        if (!came(w, now.b, now.d, NONE, NONE)) return null;
        for (int s = 0; s < w.list.size(); s++) {
            Stand here = w.list.get(s);
            Integer[] order = ranked(here.d);
            for (int k = 0; k < now.n; k++) {
                int[][] b = newTable(here.b, order[k]);
                int[][] d = newD(here.b, here.d, order[k]);
                if (!came(w, b, d, s, k)) return null;
                here.next[k] = w.numbers.get(key(b, d));
            }
        }
        note("WALKED to the end");
        return w;
    }

    private boolean came(Walked w, int[][] b, int[][] d, int from, int by) {
        for (int i = 0; i < b.length; i++) {
            for (int j = 0; j < b.length; j++) {
                if (b[i][j] * b[j][i] < -3 || Math.abs(b[i][j]) > 99 || Math.abs(d[i][j]) > 99) {
                    note("OPEN: too much");
                    return false;
                }
            }
        }
        String key = key(b, d);
        if (w.numbers.containsKey(key)) return true;
        if (w.list.size() == 200) {
            note("OPEN: too many");
            return false;
        }
        Stand t = new Stand();
        t.b = b;
        t.d = d;
        t.from = from;
        t.by = by;
        t.steps = from == NONE ? 0 : w.list.get(from).steps + 1;
        t.next = new int[b.length];
        w.numbers.put(key, w.list.size());
        w.list.add(t);
        w.far = Math.max(w.far, t.steps);
        for (int[] row : d) w.rows.add(Arrays.toString(row));
        return true;
    }

    private Stand standOf(int s) {
        Walked w = walked();
        return w == null || s < 0 || s >= w.list.size() ? null : w.list.get(s);
    }

    private int stand(int s, int what) {
        Stand t = standOf(s);
        if (t == null) return UNKNOWN;
        if (what < 0 || what > 2) return OUTSIDE;
        return what == 0 ? t.steps : what == 1 ? t.from : t.by;
    }

    private int next(int s, int k) {
        Stand t = standOf(s);
        return t == null || !letter(k) ? UNKNOWN : t.next[k];
    }

    private int away(int steps) {
        Walked w = walked();
        if (w == null) return NONE;
        int count = 0;
        for (Stand t : w.list) if (t.steps == steps) count++;
        return count;
    }

    private int standRow(int s, int k, int number) {
        Stand t = standOf(s);
        if (t == null || !letter(k)) return UNKNOWN;
        if (!letter(number)) return OUTSIDE;
        return t.d[ranked(t.d)[k]][number] + 1000;
    }

    private int write(int i, int d) {
        if (!letter(i)) return UNKNOWN;
        if (book.size() == 20) return FULL;
        book.add(new int[] {i, d});
        return book.size();
    }

    private int keep(int i) {
        if (i != 0 && i != 1) return UNKNOWN;
        images[i] = now.copy();
        imageSeeds[i] = seed;
        deeds.clear();
        return 1;
    }

    private int goBack(int i) {
        if (i != 0 && i != 1) return UNKNOWN;
        if (images[i] == null) return NOT;
        now = images[i].copy();
        seed = imageSeeds[i];
        deeds.clear();
        note("gone back");
        return 1;
    }
}
