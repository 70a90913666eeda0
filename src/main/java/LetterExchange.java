/**
 * Letters that are exchanged one by one: a table tells how letters hang on one another; to exchange
 * a letter is to put another in its place, and with it the table changes.
 *
 * <p>The words in capitals in the comments are those of the document.
 */
public final class LetterExchange {
    public static final int NONE = -1;
    public static final int UNKNOWN = -1000000001;
    public static final int OUTSIDE = -1000000002;
    public static final int NOT = -1000000003;
    public static final int FULL = -1000000004;

    private static final int LETTERS_LEAST = 2;
    private static final int LETTERS_MOST = 4;
    private static final int CELLS = LETTERS_MOST * LETTERS_MOST;
    private static final int NUMBER_MOST = 99;
    private static final int LIFT = 1000;
    private static final int FIGURES = 200;
    private static final int FIGURE_LIFT = 100;
    private static final int DEEDS_MOST = 20;
    private static final int EXCHANGES_MOST = 99999;
    private static final int IMAGES = 2;
    private static final int FAULT_BASE = -10;

    private final Text text = new Text();
    private final Scales scales = new Scales();
    private final Exchanger exchanger = new Exchanger();
    private final History history = new History();
    private final Book book = new Book();
    private final Graph graph = new Graph();
    private final Walk walk = new Walk();
    private final Turns turns = new Turns();
    private final State first = new State();
    private final State[] images = {new State(), new State()};
    private final boolean[] kept = new boolean[IMAGES];
    private final int[] imageSeeds = new int[IMAGES];
    private final int[] codesNow = new int[LETTERS_MOST];
    private State now = new State();
    private State spare = new State();
    private int theSeed = 0;
    private boolean graphIsOld = true;
    private boolean walkIsOld = true;

    public LetterExchange() {
        spare.begin(LETTERS_LEAST);
        spare.shape.hang(0, 1, 1, 1);
        beginAsSpare();
    }

    // ---- letters

    public int feed(int letter) {
        if (letter < 0 || letter > 255) {
            return OUTSIDE;
        }
        return text.append(letter) ? text.length : FULL;
    }

    public int letters() {
        boolean taken = text.readInto(spare);
        text.length = 0;
        if (!taken) {
            return FAULT_BASE - text.fault;
        }
        beginAsSpare();
        return now.shape.count;
    }

    public int fault() {
        return text.faultPlace;
    }

    public int told(int what) {
        switch (what) {
            case 0:
                return now.shape.count;
            case 1:
                return text.length;
            case 2:
                return scales.well ? 1 : 0;
            case 3:
                return now.exchanges;
            case 4:
                return isOpen() ? NONE : walk.count;
            case 5:
                return isOpen() ? NONE : graph.allLetters;
            case 6:
                return isOpen() ? NONE : walk.far();
            case 7:
                return book.size;
            case 8:
                return book.firstWrong(now.shape);
            case 9:
                return history.size;
            default:
                return OUTSIDE;
        }
    }

    public int table(int i, int j) {
        if (isNoLetter(i) || isNoLetter(j)) {
            return UNKNOWN;
        }
        return now.shape.table[cell(i, j)] + LIFT;
    }

    public int letter(int i, int what) {
        if (isNoLetter(i)) {
            return UNKNOWN;
        }
        switch (what) {
            case 0:
                return now.above[i];
            case 1:
                return now.below[i];
            case 2:
                return scales.well ? scales.weights[i] : NONE;
            case 3:
                return now.shape.boundTo(i);
            case 4:
                return placeNow(i);
            case 5:
                return exchangesIntoSpare(i) ? spare.above[i] : NONE;
            case 6:
                return exchangesIntoSpare(i) ? spare.below[i] : NONE;
            default:
                return OUTSIDE;
        }
    }

    public int row(int i, int which, int k) {
        if (isNoLetter(i)) {
            return UNKNOWN;
        }
        if (isNoLetter(k)) {
            return OUTSIDE;
        }
        switch (which) {
            case 0:
                return now.shape.rows[cell(i, k)] + LIFT;
            case 1:
                return now.signs[cell(i, k)] + LIFT;
            case 2:
                return now.degrees[cell(i, k)] + LIFT;
            default:
                return OUTSIDE;
        }
    }

    public int byTurns(int i, int j) {
        if (isNoLetter(i) || isNoLetter(j) || i == j) {
            return UNKNOWN;
        }
        return scales.well ? turns.count(now.shape, i, j) : NONE;
    }

    // ---- deeds

    public int exchange(int k) {
        if (isNoLetter(k)) {
            return UNKNOWN;
        }
        if (!exchangesIntoSpare(k)) {
            return NOT;
        }
        history.remember(now);
        takeSpare();
        return placeNow(k);
    }

    public int start() {
        int were = now.exchanges;
        history.remember(now);
        now.copyFrom(first);
        walkIsOld = true;
        return were;
    }

    public int drift(int n) {
        if (n < 1 || n > DEEDS_MOST) {
            return OUTSIDE;
        }
        for (int time = 0; time < n; time++) {
            int k = draw(now.shape.count);
            // A time is a deed even if what was drawn could not be EXCHANGED.
            history.remember(now);
            if (exchangesIntoSpare(k)) {
                takeSpare();
            }
        }
        return now.exchanges;
    }

    public int undo(int n) {
        if (n < 1 || n > DEEDS_MOST) {
            return OUTSIDE;
        }
        if (n > history.size) {
            return NOT;
        }
        history.takeBack(n, now);
        walkIsOld = true;
        return now.exchanges;
    }

    // ---- stands

    public int stand(int s, int what) {
        if (isOpen() || walk.lacks(s)) {
            return UNKNOWN;
        }
        switch (what) {
            case 0:
                return walk.steps[s];
            case 1:
                return walk.parents[s];
            case 2:
                return walk.ways[s];
            default:
                return OUTSIDE;
        }
    }

    public int next(int s, int k) {
        if (isOpen() || walk.lacks(s) || isNoLetter(k)) {
            return UNKNOWN;
        }
        return walk.lead(graph, s, k);
    }

    public int away(int steps) {
        return isOpen() ? NONE : walk.countAway(steps);
    }

    public int standRow(int s, int k, int number) {
        if (isOpen() || walk.lacks(s) || isNoLetter(k)) {
            return UNKNOWN;
        }
        if (isNoLetter(number)) {
            return OUTSIDE;
        }
        return graph.rowNumber(walk.stands[s], k, number) + LIFT;
    }

    // ---- the book

    public int write(int i, int d) {
        if (isNoLetter(i)) {
            return UNKNOWN;
        }
        return book.append(i, d) ? book.size : FULL;
    }

    public int tear() {
        int had = book.size;
        book.size = 0;
        return had;
    }

    // ---- images

    public int seed(int v) {
        if (v < 0) {
            return OUTSIDE;
        }
        int was = theSeed;
        theSeed = v;
        return was;
    }

    public int keep(int i) {
        if (i < 0 || i >= IMAGES) {
            return UNKNOWN;
        }
        images[i].copyFrom(now);
        imageSeeds[i] = theSeed;
        kept[i] = true;
        history.forget();
        return 1;
    }

    public int goBack(int i) {
        if (i < 0 || i >= IMAGES) {
            return UNKNOWN;
        }
        if (!kept[i]) {
            return NOT;
        }
        now.copyFrom(images[i]);
        theSeed = imageSeeds[i];
        history.forget();
        walkIsOld = true;
        return 1;
    }

    // ---- what the calls share

    /** The state that the spare holds becomes all there is. THE SEED stays. */
    private void beginAsSpare() {
        first.copyFrom(spare);
        takeSpare();
        scales.weigh(first.shape);
        book.size = 0;
        history.forget();
        for (int i = 0; i < IMAGES; i++) {
            kept[i] = false;
        }
        graphIsOld = true;
    }

    private boolean isNoLetter(int i) {
        return i < 0 || i >= now.shape.count;
    }

    private boolean isOpen() {
        if (graphIsOld) {
            graph.find(now.shape, scales.well);
            graphIsOld = false;
        }
        if (walkIsOld && !graph.open) {
            walk.number(graph, graph.standOf(now.shape));
            walkIsOld = false;
        }
        return graph.open;
    }

    /** Whether LETTER k can be EXCHANGED; if so, the spare holds what is so then. */
    private boolean exchangesIntoSpare(int k) {
        return scales.well && exchanger.fill(spare, now, k);
    }

    private void takeSpare() {
        State before = now;
        now = spare;
        spare = before;
        walkIsOld = true;
    }

    private int placeNow(int i) {
        int count = now.shape.count;
        for (int j = 0; j < count; j++) {
            codesNow[j] = now.shape.code(j);
        }
        return placeAmong(codesNow, count, i);
    }

    private int draw(int n) {
        theSeed = (int) ((theSeed * 1103515245L + 12345L) & 0x7fffffffL);
        return n > 0 ? theSeed / 65536 % n : 0;
    }

    private static int cell(int i, int j) {
        return i * LETTERS_MOST + j;
    }

    private static boolean hasNumberBeyond(int[] cells, int count) {
        for (int i = 0; i < count; i++) {
            for (int j = 0; j < count; j++) {
                int number = cells[cell(i, j)];
                if (number > NUMBER_MOST || number < -NUMBER_MOST) {
                    return true;
                }
            }
        }
        return false;
    }

    /** A ROW as one number, as THE BOOK tells it; it grows as ROWS do in RANKED order. */
    private static int codeOf(int[] cells, int i, int count) {
        int code = 0;
        for (int m = 0; m < count; m++) {
            code = code * FIGURES + cells[cell(i, m)] + FIGURE_LIFT;
        }
        return code;
    }

    /** The place of LETTER i as RANKED, from the codes of all D ROWS. */
    private static int placeAmong(int[] codes, int count, int i) {
        int place = 0;
        for (int j = 0; j < count; j++) {
            if (codes[j] < codes[i] || codes[j] == codes[i] && j < i) {
                place++;
            }
        }
        return place;
    }

    /** THE TEXT, and the reading of it. */
    private static final class Text {
        private static final int MOST = 100;
        private static final int END = -1;
        private static final int FAULT_PLACE = 1;
        private static final int FAULT_BOUNDS = 2;
        private static final int FAULT_SECOND = 3;
        private static final int FAULT_PAIR = 4;

        final int[] signs = new int[MOST];
        int length = 0;
        int fault = 0;
        int faultPlace = NONE;
        private int at = 0;
        private int place = 0;

        boolean append(int sign) {
            if (length >= MOST) {
                return false;
            }
            signs[length] = sign;
            length++;
            return true;
        }

        /** With a FAULT the state is left of no use. */
        boolean readInto(State state) {
            at = 0;
            fault = 0;
            faultPlace = NONE;
            if (!readCount(state)) {
                return false;
            }
            for (int clause = 0; clause < MOST; clause++) {
                int word = take();
                if (word == END) {
                    return true;
                }
                if (!readClause(word, state)) {
                    return false;
                }
            }
            return true;
        }

        private boolean readCount(State state) {
            if (take() != 'n') {
                return blame(FAULT_PLACE);
            }
            int count = figure(LETTERS_LEAST, LETTERS_MOST);
            if (count == NONE) {
                return false;
            }
            state.begin(count);
            return readEnd();
        }

        private boolean readClause(int word, State state) {
            switch (word) {
                case 'n':
                    return blame(FAULT_SECOND);
                case 'b':
                    return readHang(state.shape);
                case 'x':
                    return readWorth(state);
                default:
                    return blame(FAULT_PLACE);
            }
        }

        private boolean readHang(Shape shape) {
            int i = figure(0, shape.count - 1);
            if (i == NONE) {
                return false;
            }
            int j = figure(0, shape.count - 1);
            if (j == NONE) {
                return false;
            }
            if (i == j) {
                return blame(FAULT_PAIR);
            }
            int u = figure(0, 3);
            if (u == NONE) {
                return false;
            }
            int v = figure(0, 3);
            if (v == NONE) {
                return false;
            }
            if ((u == 0) != (v == 0)) {
                return blame(FAULT_PAIR);
            }
            shape.hang(i, j, u, v);
            return readEnd();
        }

        private boolean readWorth(State state) {
            int i = figure(0, state.shape.count - 1);
            if (i == NONE) {
                return false;
            }
            int worth = figure(1, 9);
            if (worth == NONE) {
                return false;
            }
            state.above[i] = worth;
            return readEnd();
        }

        private boolean readEnd() {
            return take() == ';' || blame(FAULT_PLACE);
        }

        /** NONE: there is no such NUMBER, and the FAULT is told. */
        private int figure(int least, int most) {
            int sign = take();
            if (sign < '0' || sign > '9') {
                blame(FAULT_PLACE);
                return NONE;
            }
            int number = sign - '0';
            if (number < least || number > most) {
                blame(FAULT_BOUNDS);
                return NONE;
            }
            return number;
        }

        /** The next sign that is no blank; its place is kept for a FAULT that it may have. */
        private int take() {
            while (at < length && signs[at] == ' ') {
                at++;
            }
            place = at;
            if (at >= length) {
                return END;
            }
            at++;
            return signs[place];
        }

        private boolean blame(int number) {
            fault = number;
            faultPlace = place;
            return false;
        }
    }

    /** THE TABLE and the D ROWS: what tells STANDS from one another. */
    private static final class Shape {
        int count = LETTERS_LEAST;
        final int[] table = new int[CELLS];
        final int[] rows = new int[CELLS];

        void begin(int letters) {
            count = letters;
            for (int i = 0; i < LETTERS_MOST; i++) {
                for (int j = 0; j < LETTERS_MOST; j++) {
                    table[cell(i, j)] = 0;
                    rows[cell(i, j)] = i == j ? -1 : 0;
                }
            }
        }

        void hang(int i, int j, int u, int v) {
            table[cell(i, j)] = u;
            table[cell(j, i)] = -v;
        }

        void copyFrom(Shape other) {
            count = other.count;
            System.arraycopy(other.table, 0, table, 0, CELLS);
            System.arraycopy(other.rows, 0, rows, 0, CELLS);
        }

        /** Becomes the other, EXCHANGED. False: a number beyond 99 came; this is then of no use. */
        boolean becomeExchanged(Shape other, int k) {
            count = other.count;
            for (int i = 0; i < count; i++) {
                for (int j = 0; j < count; j++) {
                    table[cell(i, j)] = other.tableAfter(i, j, k);
                    rows[cell(i, j)] = i == k ? other.rowAfter(k, j) : other.rows[cell(i, j)];
                }
            }
            return !hasNumberBeyond(table, count) && !hasNumberBeyond(rows, count);
        }

        private int tableAfter(int i, int j, int k) {
            int b = table[cell(i, j)];
            if (i == k || j == k) {
                return -b;
            }
            int toK = table[cell(i, k)];
            int fromK = table[cell(k, j)];
            if (toK > 0 && fromK > 0) {
                return b + toK * fromK;
            }
            if (toK < 0 && fromK < 0) {
                return b - toK * fromK;
            }
            return b;
        }

        private int rowAfter(int k, int m) {
            int ofPositive = 0;
            int ofNegative = 0;
            for (int i = 0; i < count; i++) {
                int b = table[cell(i, k)];
                if (b > 0) {
                    ofPositive += b * rows[cell(i, m)];
                } else {
                    ofNegative -= b * rows[cell(i, m)];
                }
            }
            return Math.max(ofPositive, ofNegative) - rows[cell(k, m)];
        }

        /** BOUND, as a SET. */
        int boundTo(int i) {
            int set = 0;
            for (int j = 0; j < count; j++) {
                if (table[cell(i, j)] != 0) {
                    set |= 1 << j;
                }
            }
            return set;
        }

        int code(int i) {
            return codeOf(rows, i, count);
        }

        /** Whether no two LETTERS hang on one another so strongly that STANDS have no end. */
        boolean isMild() {
            for (int i = 0; i < count; i++) {
                for (int j = 0; j < i; j++) {
                    if (table[cell(i, j)] * table[cell(j, i)] < -3) {
                        return false;
                    }
                }
            }
            return true;
        }
    }

    /** What deeds change, and UNDONE is given back. */
    private static final class State {
        final Shape shape = new Shape();
        final int[] above = new int[LETTERS_MOST];
        final int[] below = new int[LETTERS_MOST];
        final int[] signs = new int[CELLS];
        final int[] degrees = new int[CELLS];
        int exchanges = 0;

        void begin(int letters) {
            shape.begin(letters);
            exchanges = 0;
            for (int i = 0; i < LETTERS_MOST; i++) {
                above[i] = 1;
                below[i] = 1;
                for (int j = 0; j < LETTERS_MOST; j++) {
                    signs[cell(i, j)] = i == j ? 1 : 0;
                    degrees[cell(i, j)] = i == j ? 1 : 0;
                }
            }
        }

        void copyFrom(State other) {
            shape.copyFrom(other.shape);
            System.arraycopy(other.above, 0, above, 0, LETTERS_MOST);
            System.arraycopy(other.below, 0, below, 0, LETTERS_MOST);
            System.arraycopy(other.signs, 0, signs, 0, CELLS);
            System.arraycopy(other.degrees, 0, degrees, 0, CELLS);
            exchanges = other.exchanges;
        }
    }

    /** A number above 0, in lowest terms. */
    private static final class Fraction {
        private static final long MOST = 1000000000L;
        // Euclid's way needs fewer steps than this for every two longs.
        private static final int EUCLID_STEPS = 200;

        long above = 1;
        long below = 1;

        void becomeOne() {
            above = 1;
            below = 1;
        }

        /** False: a number above the most came. Both factors are within it, so no long runs over. */
        boolean multiply(long otherAbove, long otherBelow) {
            above *= otherAbove;
            below *= otherBelow;
            return isSmallInLowestTerms();
        }

        boolean add(Fraction other) {
            above = above * other.below + other.above * below;
            below *= other.below;
            return isSmallInLowestTerms();
        }

        private boolean isSmallInLowestTerms() {
            long divisor = above;
            long rest = below;
            for (int step = 0; step < EUCLID_STEPS && rest != 0; step++) {
                long left = divisor % rest;
                divisor = rest;
                rest = left;
            }
            if (divisor > 1) {
                above /= divisor;
                below /= divisor;
            }
            return above <= MOST && below <= MOST;
        }
    }

    /** Tells what is so when a LETTER is EXCHANGED. */
    private static final class Exchanger {
        private final Fraction worth = new Fraction();
        private final Fraction other = new Fraction();

        /** False: it is refused; the state to be filled is then of no use. */
        boolean fill(State after, State before, int k) {
            if (!findWorth(before, k) || !after.shape.becomeExchanged(before.shape, k)) {
                return false;
            }
            int count = before.shape.count;
            fillSigns(after, before, k);
            fillDegrees(after, before, k);
            if (hasNumberBeyond(after.signs, count) || hasNumberBeyond(after.degrees, count)) {
                return false;
            }
            System.arraycopy(before.above, 0, after.above, 0, LETTERS_MOST);
            System.arraycopy(before.below, 0, after.below, 0, LETTERS_MOST);
            after.above[k] = (int) worth.above;
            after.below[k] = (int) worth.below;
            after.exchanges = Math.min(before.exchanges + 1, EXCHANGES_MOST);
            return true;
        }

        private boolean findWorth(State before, int k) {
            return multiplyAll(worth, before, k, 1)
                    && multiplyAll(other, before, k, -1)
                    && worth.add(other)
                    && worth.multiply(before.below[k], before.above[k]);
        }

        /** P for the side 1, Q for the side -1. */
        private static boolean multiplyAll(Fraction product, State before, int k, int side) {
            product.becomeOne();
            for (int i = 0; i < before.shape.count; i++) {
                int times = side * before.shape.table[cell(i, k)];
                for (int time = 0; time < times; time++) {
                    if (!product.multiply(before.above[i], before.below[i])) {
                        return false;
                    }
                }
            }
            return true;
        }

        private static void fillSigns(State after, State before, int k) {
            int count = before.shape.count;
            for (int j = 0; j < count; j++) {
                for (int m = 0; m < count; m++) {
                    after.signs[cell(j, m)] = signAfter(before, j, k, m);
                }
            }
        }

        private static int signAfter(State before, int j, int k, int m) {
            int c = before.signs[cell(k, m)];
            if (j == k) {
                return -c;
            }
            int b = before.shape.table[cell(k, j)];
            int own = before.signs[cell(j, m)];
            if (c > 0 && b > 0) {
                return own + c * b;
            }
            if (c < 0 && b < 0) {
                return own - c * b;
            }
            return own;
        }

        private static void fillDegrees(State after, State before, int k) {
            int count = before.shape.count;
            int side = hasPositiveSign(before, k) ? -1 : 1;
            for (int i = 0; i < count; i++) {
                for (int m = 0; m < count; m++) {
                    after.degrees[cell(i, m)] =
                            i == k ? degreeAfter(before, k, m, side) : before.degrees[cell(i, m)];
                }
            }
        }

        private static boolean hasPositiveSign(State before, int k) {
            for (int m = 0; m < before.shape.count; m++) {
                if (before.signs[cell(k, m)] > 0) {
                    return true;
                }
            }
            return false;
        }

        private static int degreeAfter(State before, int k, int m, int side) {
            int sum = 0;
            for (int i = 0; i < before.shape.count; i++) {
                int times = side * before.shape.table[cell(i, k)];
                if (times > 0) {
                    sum += times * before.degrees[cell(i, m)];
                }
            }
            return sum - before.degrees[cell(k, m)];
        }
    }

    /** Whether THE TABLE is WELL, and by which WEIGHTS; no EXCHANGE changes either. */
    private static final class Scales {
        private static final int WEIGHT_MOST = 9;

        boolean well = false;
        final int[] weights = new int[LETTERS_MOST];

        void weigh(Shape shape) {
            well = weighFrom(shape, weights, 0);
        }

        /** Tries the least WEIGHTS first, so that the first ones that fit are those that are meant. */
        private static boolean weighFrom(Shape shape, int[] weights, int i) {
            if (i >= shape.count || i >= LETTERS_MOST) {
                return true;
            }
            for (int weight = 1; weight <= WEIGHT_MOST; weight++) {
                weights[i] = weight;
                if (fits(shape, weights, i) && weighFrom(shape, weights, i + 1)) {
                    return true;
                }
            }
            return false;
        }

        private static boolean fits(Shape shape, int[] weights, int i) {
            for (int j = 0; j < i; j++) {
                int here = weights[i] * shape.table[cell(i, j)];
                int there = weights[j] * shape.table[cell(j, i)];
                if (here != -there) {
                    return false;
                }
            }
            return true;
        }
    }

    /** The states ahead of the latest deeds; the oldest one makes room for a new one. */
    private static final class History {
        private final State[] states = new State[DEEDS_MOST];
        private int oldest = 0;
        int size = 0;

        History() {
            for (int i = 0; i < DEEDS_MOST; i++) {
                states[i] = new State();
            }
        }

        void forget() {
            size = 0;
        }

        void remember(State state) {
            states[(oldest + size) % DEEDS_MOST].copyFrom(state);
            if (size < DEEDS_MOST) {
                size++;
            } else {
                oldest = (oldest + 1) % DEEDS_MOST;
            }
        }

        void takeBack(int deeds, State into) {
            if (deeds < 1 || deeds > size) {
                return;
            }
            size -= deeds;
            into.copyFrom(states[(oldest + size) % DEEDS_MOST]);
        }
    }

    /** THE BOOK. */
    private static final class Book {
        private static final int MOST = 20;

        private final int[] letters = new int[MOST];
        private final int[] codes = new int[MOST];
        int size = 0;

        boolean append(int letter, int code) {
            if (size >= MOST) {
                return false;
            }
            letters[size] = letter;
            codes[size] = code;
            size++;
            return true;
        }

        int firstWrong(Shape shape) {
            for (int entry = 0; entry < size; entry++) {
                int letter = letters[entry];
                if (letter >= shape.count || shape.code(letter) != codes[entry]) {
                    return entry;
                }
            }
            return NONE;
        }
    }

    /** EXCHANGES of two LETTERS by TURNS. */
    private static final class Turns {
        private static final int MOST = 20;

        private final Shape one = new Shape();
        private final Shape other = new Shape();
        private final int[] startCodes = new int[LETTERS_MOST];
        private final int[] codes = new int[LETTERS_MOST];

        int count(Shape start, int i, int j) {
            fillRanked(startCodes, start);
            Shape before = one;
            Shape after = other;
            before.copyFrom(start);
            for (int turn = 1; turn <= MOST; turn++) {
                if (!after.becomeExchanged(before, turn % 2 == 1 ? i : j)) {
                    return NONE;
                }
                fillRanked(codes, after);
                if (areAlike(startCodes, codes, start.count)) {
                    return turn;
                }
                Shape done = before;
                before = after;
                after = done;
            }
            return NONE;
        }

        /** The codes of the D ROWS, the least first. */
        private static void fillRanked(int[] ranked, Shape shape) {
            for (int i = 0; i < shape.count; i++) {
                int code = shape.code(i);
                int place = i;
                while (place > 0 && ranked[place - 1] > code) {
                    ranked[place] = ranked[place - 1];
                    place--;
                }
                ranked[place] = code;
            }
        }

        private static boolean areAlike(int[] one, int[] other, int count) {
            for (int i = 0; i < count; i++) {
                if (one[i] != other[i]) {
                    return false;
                }
            }
            return true;
        }
    }

    /**
     * All STANDS that there are. They are found once for each text: every EXCHANGE can be gone back,
     * so from each STAND one comes to the same ones, and whether they are OPEN is the same too.
     */
    private static final class Graph {
        private static final int MOST = 200;
        // A STAND is kept as the codes of its D ROWS and behind them of its TABLE's rows, as RANKED.
        private static final int CODES = 2 * LETTERS_MOST;

        int count = 0;
        int letters = LETTERS_LEAST;
        int allLetters = 0;
        boolean open = true;
        final int[] leads = new int[MOST * LETTERS_MOST];
        private final int[] codes = new int[MOST * CODES];
        private final int[] probe = new int[CODES];
        private final int[] ownCodes = new int[LETTERS_MOST];
        private final int[] places = new int[LETTERS_MOST];
        private final int[] ranked = new int[LETTERS_MOST];
        private final int[] seen = new int[MOST * LETTERS_MOST];
        private final Shape here = new Shape();
        private final Shape there = new Shape();

        void find(Shape start, boolean well) {
            letters = start.count;
            count = 0;
            open = true;
            if (!well || !start.isMild()) {
                return;
            }
            fillProbe(start);
            addProbe();
            for (int s = 0; s < count && s < MOST; s++) {
                load(s);
                for (int k = 0; k < letters; k++) {
                    if (leads[s * LETTERS_MOST + k] == NONE && !findLead(s, k)) {
                        return;
                    }
                }
            }
            open = false;
            allLetters = countAllLetters();
        }

        /** NONE: there is no such STAND. */
        int standOf(Shape shape) {
            fillProbe(shape);
            return standOfProbe();
        }

        /** Of the STAND that is here. False: OPEN. */
        private boolean findLead(int s, int k) {
            if (!there.becomeExchanged(here, k) || !there.isMild()) {
                return false;
            }
            fillProbe(there);
            int found = standOfProbe();
            if (found == NONE) {
                if (count >= MOST) {
                    return false;
                }
                found = addProbe();
            }
            leads[s * LETTERS_MOST + k] = found;
            // Twice EXCHANGED, the same LETTER, all is as it was.
            leads[found * LETTERS_MOST + places[k]] = s;
            return true;
        }

        private void fillProbe(Shape shape) {
            for (int i = 0; i < letters; i++) {
                ownCodes[i] = codeOf(shape.rows, i, letters);
            }
            for (int i = 0; i < letters; i++) {
                places[i] = placeAmong(ownCodes, letters, i);
                ranked[places[i]] = i;
            }
            for (int a = 0; a < letters; a++) {
                int code = 0;
                for (int b = 0; b < letters; b++) {
                    code = code * FIGURES + shape.table[cell(ranked[a], ranked[b])] + FIGURE_LIFT;
                }
                probe[a] = ownCodes[ranked[a]];
                probe[LETTERS_MOST + a] = code;
            }
        }

        private int standOfProbe() {
            for (int s = 0; s < count; s++) {
                // Most STANDS differ in the first code: that saves most of the calls.
                if (codes[s * CODES] == probe[0] && isProbe(s)) {
                    return s;
                }
            }
            return NONE;
        }

        private boolean isProbe(int s) {
            for (int a = 0; a < letters; a++) {
                if (codes[s * CODES + a] != probe[a]
                        || codes[s * CODES + LETTERS_MOST + a] != probe[LETTERS_MOST + a]) {
                    return false;
                }
            }
            return true;
        }

        /** Only while there is room. */
        private int addProbe() {
            System.arraycopy(probe, 0, codes, count * CODES, CODES);
            for (int k = 0; k < LETTERS_MOST; k++) {
                leads[count * LETTERS_MOST + k] = NONE;
            }
            count++;
            return count - 1;
        }

        /** The STAND comes here, its LETTERS numbered as RANKED. */
        private void load(int s) {
            here.count = letters;
            for (int a = 0; a < letters; a++) {
                spread(codes[s * CODES + a], here.rows, a);
                spread(codes[s * CODES + LETTERS_MOST + a], here.table, a);
            }
        }

        private void spread(int code, int[] cells, int a) {
            int rest = code;
            for (int m = letters - 1; m >= 0; m--) {
                cells[cell(a, m)] = rest % FIGURES - FIGURE_LIFT;
                rest /= FIGURES;
            }
        }

        private int countAllLetters() {
            int found = 0;
            for (int s = 0; s < count; s++) {
                for (int a = 0; a < letters; a++) {
                    int code = codes[s * CODES + a];
                    if (!isSeen(code, found)) {
                        seen[found] = code;
                        found++;
                    }
                }
            }
            return found;
        }

        private boolean isSeen(int code, int found) {
            for (int i = 0; i < found; i++) {
                if (seen[i] == code) {
                    return true;
                }
            }
            return false;
        }

        int rowNumber(int s, int k, int number) {
            int code = codes[s * CODES + k];
            for (int m = letters - 1; m > number; m--) {
                code /= FIGURES;
            }
            return code % FIGURES - FIGURE_LIFT;
        }
    }

    /** The numbers of the STANDS, as they are WALKED from what is so now. */
    private static final class Walk {
        int count = 0;
        // Of each number the STAND of the graph, and of each STAND of the graph its number.
        final int[] stands = new int[Graph.MOST];
        final int[] numbers = new int[Graph.MOST];
        final int[] steps = new int[Graph.MOST];
        final int[] parents = new int[Graph.MOST];
        final int[] ways = new int[Graph.MOST];

        void number(Graph graph, int start) {
            count = 0;
            for (int s = 0; s < graph.count; s++) {
                numbers[s] = NONE;
            }
            if (start == NONE) {
                return;
            }
            add(start, NONE, NONE);
            for (int s = 0; s < count && s < Graph.MOST; s++) {
                for (int k = 0; k < graph.letters; k++) {
                    int found = graph.leads[stands[s] * LETTERS_MOST + k];
                    // In a graph that is not OPEN no lead is missing.
                    if (found >= 0 && numbers[found] == NONE) {
                        add(found, s, k);
                    }
                }
            }
        }

        private void add(int standOfGraph, int parent, int way) {
            numbers[standOfGraph] = count;
            stands[count] = standOfGraph;
            parents[count] = parent;
            ways[count] = way;
            steps[count] = parent == NONE ? 0 : steps[parent] + 1;
            count++;
        }

        boolean lacks(int s) {
            return s < 0 || s >= count;
        }

        /** The number of the STAND to which an EXCHANGE in the STAND of number s leads. */
        int lead(Graph graph, int s, int k) {
            int found = graph.leads[stands[s] * LETTERS_MOST + k];
            return found >= 0 ? numbers[found] : NONE;
        }

        /** STANDS are come to in the order of their steps, so the last one is as far as any. */
        int far() {
            return count > 0 ? steps[count - 1] : 0;
        }

        int countAway(int distance) {
            int found = 0;
            for (int s = 0; s < count; s++) {
                if (steps[s] == distance) {
                    found++;
                }
            }
            return found;
        }
    }
}
