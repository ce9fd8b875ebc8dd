import java.util.Arrays;

/**
 * Walks of columns to a told sum. The numbered promises that the methods keep
 * stand in DOC.md; the words in capitals there are the names used here.
 *
 * Every row of working numbers is made once and used again by later calls,
 * and what is dear to find out is kept until a column, gain, need changes.
 */
public final class RowWalks {
    public static final int NONE = -1;
    public static final int STRANGE = -1000001;

    private static final int MAX_COLUMNS = 8;
    private static final int MAX_ROWS = 3;
    private static final int MAX_STEPS = 12;
    private static final int MAX_STRIP = 12;
    private static final int MAX_TAPE = 700;
    private static final int MAX_SEEN = 20;
    private static final int MAX_SEEN_STEPS = 8;
    private static final int MAX_SEEN_SUM = 80;
    private static final int MAX_TIME = 100000;
    private static final int MAX_HELD = 99;
    private static final int MAX_NUMBER = 5;
    private static final int MAX_GAIN = 99;
    private static final int MAX_NEED = 20;
    private static final int BOXES = 2;
    private static final int NO_FIT = -2;

    private final Tape tape = new Tape();
    private final Columns told = new Columns();
    private final Columns now = new Columns();
    private final Reader reader = new Reader(tape);
    private final Columns[] boxes = new Columns[BOXES];
    private final boolean[] filled = new boolean[BOXES];
    private final Acts acts = new Acts();
    private final PlanSearch search = new PlanSearch();
    private final Strip band = new Strip(now);
    private final Optimum top = new Optimum(now, search);
    private final Corners fractions = new Corners(now);
    private final Exchange trade = new Exchange(now);
    private final Doubling doubling = new Doubling(now);
    private final Knowledge known = new Knowledge(told, search);
    private final int[] sums = new int[MAX_ROWS];

    public RowWalks() {
        for (int box = 0; box < BOXES; box++) {
            boxes[box] = new Columns();
        }
    }

    public int feed(int a, int b, int c, int d, int e) {
        if (tape.length + 20 > MAX_TAPE) {
            return NONE;
        }
        tape.put(a);
        tape.put(b);
        tape.put(c);
        tape.put(d);
        tape.put(e);
        return tape.length;
    }

    public int end(int n) {
        if (n < 0 || n > tape.length) {
            return NONE;
        }
        tape.length = n;
        return n;
    }

    public int program() {
        boolean fine = reader.read();
        tape.length = 0;
        if (!fine) {
            return NONE;
        }
        told.copyFrom(reader.draft);
        now.copyFrom(reader.draft);
        acts.forget();
        known.forget();
        for (int box = 0; box < BOXES; box++) {
            filled[box] = false;
        }
        return now.count;
    }

    public int fault(int what) {
        if (what == 0) {
            return reader.fault;
        }
        return what == 1 ? reader.place : NONE;
    }

    public int number(int column, int row) {
        if (!now.hasColumn(column) || !now.hasRow(row)) {
            return STRANGE;
        }
        return now.numberOf(column, row);
    }

    public int gain(int column) {
        return now.hasColumn(column) ? now.gainOf(column) : STRANGE;
    }

    public int need(int row) {
        return now.hasRow(row) ? now.needOf(row) : STRANGE;
    }

    public int change(int column, int row, int v) {
        if (!now.hasColumn(column) || !now.hasRow(row)) {
            return STRANGE;
        }
        return turn(column * MAX_ROWS + row, v, -MAX_NUMBER, MAX_NUMBER);
    }

    public int worth(int column, int v) {
        if (!now.hasColumn(column)) {
            return STRANGE;
        }
        return turn(Columns.GAINS + column, v, -MAX_GAIN, MAX_GAIN);
    }

    public int want(int row, int v) {
        if (!now.hasRow(row)) {
            return STRANGE;
        }
        return turn(Columns.NEEDS + row, v, -MAX_NEED, MAX_NEED);
    }

    public int allow(int steps) {
        return turn(Columns.STEPS, steps, 1, MAX_STEPS);
    }

    public int hold(int column, int often) {
        if (!now.hasColumn(column)) {
            return NONE;
        }
        int was = turn(Columns.HELD + column, often, 0, MAX_HELD);
        return was == STRANGE ? NONE : was;
    }

    private int turn(int slot, int v, int least, int most) {
        int was = now.get(slot);
        if (v < least || v > most || v == was) {
            return STRANGE;
        }
        now.put(slot, v);
        acts.keep(slot, was, v);
        return was;
    }

    public int better(int r) {
        if (!trade.find(r)) {
            return STRANGE;
        }
        acts.keepShifts(trade);
        acts.apply(now, acts.latest(), 1);
        return now.heldGain();
    }

    public boolean undo() {
        return acts.takeBack(now);
    }

    public boolean redo() {
        return acts.doAgain(now);
    }

    public int held(int column) {
        return now.hasColumn(column) ? now.heldOf(column) : NONE;
    }

    public int holding(int what) {
        if (what == 3) {
            return now.heldGain();
        }
        if (what == 4) {
            return now.heldSteps();
        }
        if (what != 5 && !now.hasRow(what)) {
            return STRANGE;
        }
        now.heldSums(sums);
        return what == 5 ? now.farFromNeed(sums) : sums[what];
    }

    public int exchange(int r, int what) {
        if (!trade.find(r)) {
            return STRANGE;
        }
        switch (what) {
            case 0:
                return trade.gained;
            case 1:
                return trade.giving;
            case 2:
                return trade.coming;
            default:
                break;
        }
        // far below 10 the difference would wrap around
        if (what < 10 || !now.hasColumn(what - 10)) {
            return STRANGE;
        }
        return trade.shiftOf(what - 10);
    }

    private static boolean isLength(int t) {
        return t >= 0 && t <= MAX_STEPS;
    }

    private static boolean isStrip(int t, int w) {
        return isLength(t) && w >= 0 && w <= MAX_STRIP;
    }

    public int strip(int t, int w, int what) {
        if (!isStrip(t, w) || what < 0 || what > 1) {
            return NONE;
        }
        band.sweep(t, w);
        if (what == 1) {
            return band.states;
        }
        return band.leading > 0 ? 1 : 0;
    }

    public long walks(int t, int w) {
        if (!isStrip(t, w)) {
            return NONE;
        }
        band.sweep(t, w);
        return band.leading;
    }

    public int best(int t, int w) {
        if (!isStrip(t, w)) {
            return STRANGE;
        }
        band.sweep(t, w);
        return band.leading > 0 ? band.greatest : STRANGE;
    }

    public int step(int t, int w, int i) {
        if (!isStrip(t, w) || i < 0 || i >= t) {
            return NONE;
        }
        band.sweep(t, w);
        return band.leading > 0 ? band.columnAt(i) : NONE;
    }

    public int narrow(int t) {
        // where no plan leads there is no need to look at ever wider strips
        if (!isLength(t) || countPlans(t, 1) == 0) {
            return NONE;
        }
        for (int w = 0; w <= MAX_STRIP; w++) {
            band.sweep(t, w);
            if (band.leading > 0) {
                return w;
            }
        }
        return NONE;
    }

    public int fewest() {
        for (int t = 0; t <= MAX_STEPS; t++) {
            if (countPlans(t, 1) > 0) {
                return t;
            }
        }
        return NONE;
    }

    private int countPlans(int t, int enough) {
        for (int row = 0; row < MAX_ROWS; row++) {
            sums[row] = now.needOf(row);
        }
        search.run(now, NONE, t, sums, enough);
        return search.found;
    }

    public int optimum(int what) {
        if (what < 0 || what > 1 || !top.find()) {
            return STRANGE;
        }
        return what == 0 ? top.greatest : top.length;
    }

    public int plan(int column) {
        if (!now.hasColumn(column) || !top.find()) {
            return NONE;
        }
        return top.oftenOf(column);
    }

    public int plans(int t) {
        return isLength(t) ? countPlans(t, PlanSearch.ALL) : NONE;
    }

    public int order(int i) {
        if (!top.find() || i < 0 || i >= top.length) {
            return NONE;
        }
        return top.columnAt(i);
    }

    public int strays() {
        return top.find() ? top.leastStray : NONE;
    }

    public int sorted() {
        return top.find() ? top.sortedStray : NONE;
    }

    public int doubled(int l, int w, int what) {
        if (l < 0 || l > 4 || w < 0 || w > 3 || what < 0 || what > 5) {
            return NONE;
        }
        if (what < 5 && what > l) {
            return NONE;
        }
        doubling.raise(l, w);
        if (what == 5) {
            return doubling.hasNeed ? 1 : 0;
        }
        return doubling.sizeOf(what);
    }

    public int relaxed(int what) {
        fractions.find();
        if (what < 0 || what > 3 || fractions.corners == 0) {
            return STRANGE;
        }
        if (what == 3) {
            return fractions.endless ? 1 : 0;
        }
        if (fractions.endless) {
            return STRANGE;
        }
        if (what == 2) {
            return fractions.set;
        }
        return part(fractions.upperGain, fractions.lower, what);
    }

    public int fraction(int column, int part) {
        fractions.find();
        if (!now.hasColumn(column) || part < 0 || part > 1 || !fractions.isThere()) {
            return STRANGE;
        }
        return part(fractions.upperOf(column), fractions.lower, part);
    }

    public int apart(int part) {
        fractions.find();
        if (part < 0 || part > 1 || !fractions.isThere() || !top.find()) {
            return STRANGE;
        }
        long upper = 0;
        for (int column = 0; column < now.count; column++) {
            upper += Math.abs(top.oftenOf(column) * fractions.lower - fractions.upperOf(column));
        }
        return part(upper, fractions.lower, part);
    }

    private static int part(long upper, long lower, int part) {
        long common = commonDivisor(Math.abs(upper), lower);
        if (common < 1) {
            return STRANGE;
        }
        return (int) ((part == 0 ? upper : lower) / common);
    }

    private static long commonDivisor(long a, long b) {
        // the rests at least halve with every second turn: 200 is far above what a long needs
        for (int turn = 0; turn < 200 && b != 0; turn++) {
            long rest = a % b;
            a = b;
            b = rest;
        }
        return a;
    }

    public int corners() {
        fractions.find();
        return fractions.corners;
    }

    public int drawn(int seed, int t, int what) {
        if (seed < 0 || seed > 9999 || !isLength(t) || now.count < 1 || what < 0 || what > 2) {
            return STRANGE;
        }
        if (what == 0) {
            return drawnStray(seed, t);
        }
        int gained = drawSums(seed, t);
        return what == 1 ? gained : now.farFromNeed(sums);
    }

    private static int draw(int seed) {
        return (seed * 137 + 71) % 10007;
    }

    private int drawnStray(int seed, int t) {
        Arrays.fill(sums, 0);
        int most = 0;
        for (int k = 1; k <= t && now.count > 0; k++) {
            seed = draw(seed);
            now.addTo(sums, seed % now.count, 1);
            most = Math.max(most, now.strayAt(sums, t, k));
        }
        return most;
    }

    private int drawSums(int seed, int t) {
        Arrays.fill(sums, 0);
        int gained = 0;
        for (int k = 0; k < t && now.count > 0; k++) {
            seed = draw(seed);
            int column = seed % now.count;
            now.addTo(sums, column, 1);
            gained += now.gainOf(column);
        }
        return gained;
    }

    public int chance(int t, int w) {
        if (!isStrip(t, w) || now.count < 1) {
            return NONE;
        }
        int within = 0;
        for (int seed = 0; seed < 100; seed++) {
            if (drawnStray(seed, t) <= w * t) {
                within++;
            }
        }
        return within;
    }

    public int seen(int t, int a, int b, int c, boolean is) {
        if (!isSeenLength(t) || !isSeenSum(a) || !isSeenSum(b) || !isSeenSum(c)) {
            return NONE;
        }
        sums[0] = a;
        sums[1] = told.rows > 1 ? b : 0;
        sums[2] = told.rows > 2 ? c : 0;
        return known.tell(t, sums, is);
    }

    private static boolean isSeenLength(int t) {
        return t >= 0 && t <= MAX_SEEN_STEPS;
    }

    private static boolean isSeenSum(int sum) {
        return sum >= -MAX_SEEN_SUM && sum <= MAX_SEEN_SUM;
    }

    public boolean untell(int seen) {
        return known.takeAway(seen);
    }

    public int later(int by) {
        if (by < 0 || by > 1000 || known.time + by > MAX_TIME) {
            return NONE;
        }
        known.time += by;
        return known.time;
    }

    public int fits(int k) {
        return Integer.bitCount(known.fitting(k));
    }

    public int fit(int i, int k) {
        int fitting = known.fitting(k);
        int before = 0;
        for (int bit = 0; bit <= MAX_COLUMNS; bit++) {
            if ((fitting >> bit & 1) != 0) {
                if (before == i) {
                    return bit - 1;
                }
                before++;
            }
        }
        return NO_FIT;
    }

    public int ask(int t, int what, int k) {
        if (!isSeenLength(t) || what < 0 || what > 1 || known.fitting(k) == 0) {
            return STRANGE;
        }
        known.chooseAsk(t, known.fitting(k));
        return what == 0 ? known.askFor : known.askLeaves;
    }

    public int image(int box) {
        if (box < 0 || box >= BOXES) {
            return NONE;
        }
        boxes[box].copyFrom(now);
        filled[box] = true;
        return now.count;
    }

    public int back(int box) {
        if (box < 0 || box >= BOXES || !filled[box]) {
            return NONE;
        }
        now.copyFrom(boxes[box]);
        acts.forget();
        return now.count;
    }

    public int about(int what) {
        switch (what) {
            case 0:
                return now.rows;
            case 1:
                return now.count;
            case 2:
                return now.steps();
            case 3:
                return now.greatestNumber();
            case 4:
                return acts.done;
            case 5:
                return acts.undone;
            case 6:
                return known.count;
            case 7:
                return known.time;
            case 8:
                return tape.length;
            default:
                return NONE;
        }
    }

    /**
     * What a text tells and hands may turn, in one row of slots, so that an act is
     * a slot with two numbers. Rows that there are not hold 0 everywhere, which
     * makes every sum over all three rows right without a look at how many there are.
     */
    private static final class Columns {
        static final int GAINS = MAX_COLUMNS * MAX_ROWS;
        static final int NEEDS = GAINS + MAX_COLUMNS;
        static final int STEPS = NEEDS + MAX_ROWS;
        static final int HELD = STEPS + 1;
        static final int SLOTS = HELD + MAX_COLUMNS;

        final int[] slots = new int[SLOTS];
        int rows;
        int count;
        /** Another number after every change, by which others know that what they keep is old. */
        int stamp;

        Columns() {
            rows = 1;
            slots[STEPS] = 8;
        }

        void clear() {
            Arrays.fill(slots, 0);
            slots[STEPS] = 8;
            rows = 1;
            count = 0;
            stamp++;
        }

        void copyFrom(Columns other) {
            System.arraycopy(other.slots, 0, slots, 0, SLOTS);
            rows = other.rows;
            count = other.count;
            stamp++;
        }

        int get(int slot) {
            return slot >= 0 && slot < SLOTS ? slots[slot] : 0;
        }

        void put(int slot, int v) {
            if (slot >= 0 && slot < SLOTS) {
                slots[slot] = v;
                stamp++;
            }
        }

        boolean hasColumn(int column) {
            return column >= 0 && column < count;
        }

        boolean hasRow(int row) {
            return row >= 0 && row < rows;
        }

        int numberOf(int column, int row) {
            return slots[column * MAX_ROWS + row];
        }

        int gainOf(int column) {
            return slots[GAINS + column];
        }

        int needOf(int row) {
            return slots[NEEDS + row];
        }

        int heldOf(int column) {
            return slots[HELD + column];
        }

        int steps() {
            return slots[STEPS];
        }

        int greatestNumber() {
            int most = 0;
            for (int slot = 0; slot < count * MAX_ROWS; slot++) {
                most = Math.max(most, Math.abs(slots[slot]));
            }
            return most;
        }

        boolean isNothing(int column) {
            for (int row = 0; row < MAX_ROWS; row++) {
                if (numberOf(column, row) != 0) {
                    return false;
                }
            }
            return true;
        }

        void addTo(int[] into, int column, int often) {
            for (int row = 0; row < MAX_ROWS; row++) {
                into[row] += often * numberOf(column, row);
            }
        }

        int strayAt(int[] of, int t, int k) {
            int most = 0;
            for (int row = 0; row < MAX_ROWS; row++) {
                most = Math.max(most, Math.abs(t * of[row] - k * needOf(row)));
            }
            return most;
        }

        int farFromNeed(int[] of) {
            int far = 0;
            for (int row = 0; row < MAX_ROWS; row++) {
                far += Math.abs(of[row] - needOf(row));
            }
            return far;
        }

        void heldSums(int[] into) {
            Arrays.fill(into, 0);
            for (int column = 0; column < count; column++) {
                addTo(into, column, heldOf(column));
            }
        }

        int heldGain() {
            int all = 0;
            for (int column = 0; column < count; column++) {
                all += heldOf(column) * gainOf(column);
            }
            return all;
        }

        int heldSteps() {
            int all = 0;
            for (int column = 0; column < count; column++) {
                all += heldOf(column);
            }
            return all;
        }
    }

    /** The bytes told so far, and the token of them that is looked at. */
    private static final class Tape {
        static final int END = 0;
        static final int NO_TOKEN = 1;
        static final int WORD = 2;
        static final int DIGITS = 3;
        static final int MINUS = 4;
        static final int SEMICOLON = 5;
        static final int LONGEST_WORD = 8;
        static final int MOST_DIGITS = 3;

        final int[] bytes = new int[MAX_TAPE];
        int length;
        int kind;
        int start;
        int stop;

        void put(int four) {
            for (int shift = 24; shift >= 0 && length < MAX_TAPE; shift -= 8) {
                bytes[length] = four >>> shift & 255;
                length++;
            }
        }

        void rewind() {
            stop = 0;
            advance();
        }

        void advance() {
            start = stop;
            while (start < length && (bytes[start] == 32 || bytes[start] == 10)) {
                start++;
            }
            stop = start;
            if (start >= length) {
                kind = END;
            } else if (isLetter(start)) {
                takeWord();
            } else if (isDigit(start)) {
                takeDigits();
            } else {
                stop = start + 1;
                kind = bytes[start] == '-' ? MINUS : bytes[start] == ';' ? SEMICOLON : NO_TOKEN;
            }
        }

        private boolean isLetter(int at) {
            return at < length && bytes[at] >= 'a' && bytes[at] <= 'z';
        }

        private boolean isDigit(int at) {
            return at < length && bytes[at] >= '0' && bytes[at] <= '9';
        }

        // a run that is too long is no token at all: it is not cut into two
        private void takeWord() {
            while (stop < length && isLetter(stop)) {
                stop++;
            }
            kind = stop - start <= LONGEST_WORD ? WORD : NO_TOKEN;
        }

        private void takeDigits() {
            while (stop < length && isDigit(stop)) {
                stop++;
            }
            kind = stop - start <= MOST_DIGITS && !isLetter(stop) ? DIGITS : NO_TOKEN;
        }

        int value() {
            int value = 0;
            for (int at = start; at < stop && at < length && at < start + MOST_DIGITS; at++) {
                value = value * 10 + bytes[at] - '0';
            }
            return value;
        }

        boolean isWord(String word) {
            if (kind != WORD || stop - start != word.length()) {
                return false;
            }
            for (int i = 0; i < word.length() && start + i < length; i++) {
                if (bytes[start + i] != word.charAt(i)) {
                    return false;
                }
            }
            return true;
        }

        boolean isSameAs(int otherStart, int otherStop) {
            if (otherStop - otherStart != stop - start) {
                return false;
            }
            for (int i = 0; start + i < stop; i++) {
                if (bytes[start + i] != bytes[otherStart + i]) {
                    return false;
                }
            }
            return true;
        }
    }

    /** Reads the tape into a draft, so that a fault leaves all else as it was. */
    private static final class Reader {
        static final int NO_TOKEN_THERE = 1;
        static final int CANNOT_STAND = 2;
        static final int TOLD_ALREADY = 3;
        static final int CANNOT_BE = 4;

        final Tape tape;
        final Columns draft = new Columns();
        final int[] nameStarts = new int[MAX_COLUMNS];
        final int[] nameStops = new int[MAX_COLUMNS];
        boolean needTold;
        boolean stepsTold;
        int fault;
        int place = NONE;

        Reader(Tape tape) {
            this.tape = tape;
        }

        boolean read() {
            draft.clear();
            needTold = false;
            stepsTold = false;
            fault = 0;
            place = NONE;
            tape.rewind();
            for (int line = 0; line < MAX_TAPE && tape.kind != Tape.END; line++) {
                if (!readLine(line)) {
                    return false;
                }
            }
            return true;
        }

        private boolean fail(int what) {
            fault = tape.kind == Tape.NO_TOKEN ? NO_TOKEN_THERE : what;
            place = tape.start;
            return false;
        }

        private boolean readLine(int line) {
            if (tape.isWord("rows")) {
                return line == 0 ? readRows() : fail(CANNOT_STAND);
            }
            if (tape.isWord("column")) {
                return draft.count < MAX_COLUMNS ? readColumn() : fail(CANNOT_STAND);
            }
            if (tape.isWord("need")) {
                return needTold ? fail(TOLD_ALREADY) : readNeed();
            }
            if (tape.isWord("steps")) {
                return stepsTold ? fail(TOLD_ALREADY) : readSteps();
            }
            return fail(CANNOT_STAND);
        }

        private boolean readRows() {
            tape.advance();
            if (!isNumber(1, MAX_ROWS)) {
                return false;
            }
            draft.rows = tape.value();
            tape.advance();
            return endLine();
        }

        private boolean readSteps() {
            stepsTold = true;
            tape.advance();
            if (!isNumber(1, MAX_STEPS)) {
                return false;
            }
            draft.put(Columns.STEPS, tape.value());
            tape.advance();
            return endLine();
        }

        private boolean readNeed() {
            needTold = true;
            tape.advance();
            for (int row = 0; row < draft.rows; row++) {
                if (!readSigned(Columns.NEEDS + row, MAX_NEED)) {
                    return false;
                }
            }
            return endLine();
        }

        private boolean readColumn() {
            tape.advance();
            if (!isNewName() || draft.count >= MAX_COLUMNS) {
                return false;
            }
            int column = draft.count;
            nameStarts[column] = tape.start;
            nameStops[column] = tape.stop;
            tape.advance();
            for (int row = 0; row < draft.rows; row++) {
                if (!readSigned(column * MAX_ROWS + row, MAX_NUMBER)) {
                    return false;
                }
            }
            if (!tape.isWord("gain")) {
                return fail(CANNOT_STAND);
            }
            tape.advance();
            if (!readSigned(Columns.GAINS + column, MAX_GAIN)) {
                return false;
            }
            draft.count++;
            return endLine();
        }

        private boolean isNewName() {
            if (tape.kind != Tape.WORD || isReserved()) {
                return fail(CANNOT_STAND);
            }
            for (int column = 0; column < draft.count; column++) {
                if (tape.isSameAs(nameStarts[column], nameStops[column])) {
                    return fail(TOLD_ALREADY);
                }
            }
            return true;
        }

        private boolean isReserved() {
            return tape.isWord("rows") || tape.isWord("column") || tape.isWord("gain")
                || tape.isWord("need") || tape.isWord("steps");
        }

        private boolean isNumber(int least, int most) {
            if (tape.kind != Tape.DIGITS) {
                return fail(CANNOT_STAND);
            }
            int value = tape.value();
            return value >= least && value <= most || fail(CANNOT_BE);
        }

        private boolean readSigned(int slot, int most) {
            boolean below = tape.kind == Tape.MINUS;
            if (below) {
                tape.advance();
            }
            if (!isNumber(0, most)) {
                return false;
            }
            draft.put(slot, below ? -tape.value() : tape.value());
            tape.advance();
            return true;
        }

        private boolean endLine() {
            if (tape.kind != Tape.SEMICOLON) {
                return fail(CANNOT_STAND);
            }
            tape.advance();
            return true;
        }
    }

    /** The latest acts in a ring: those done, behind them those taken back. */
    private static final class Acts {
        static final int KEPT = 20;
        /** The slot of an act that shifts what is held of several columns. */
        static final int SHIFTS = -1;

        final int[] slots = new int[KEPT];
        final int[] befores = new int[KEPT];
        final int[] afters = new int[KEPT];
        final int[] shifts = new int[KEPT * MAX_COLUMNS];
        int first;
        int done;
        int undone;

        void forget() {
            first = 0;
            done = 0;
            undone = 0;
        }

        int latest() {
            return (first + done + KEPT - 1) % KEPT;
        }

        void keep(int slot, int before, int after) {
            undone = 0;
            if (done < KEPT) {
                done++;
            } else {
                first = (first + 1) % KEPT;
            }
            int act = latest();
            slots[act] = slot;
            befores[act] = before;
            afters[act] = after;
        }

        void keepShifts(Exchange trade) {
            keep(SHIFTS, 0, 0);
            int act = latest();
            for (int column = 0; column < MAX_COLUMNS; column++) {
                shifts[act * MAX_COLUMNS + column] = trade.shiftOf(column);
            }
        }

        void apply(Columns columns, int act, int way) {
            if (slots[act] != SHIFTS) {
                columns.put(slots[act], way > 0 ? afters[act] : befores[act]);
                return;
            }
            for (int column = 0; column < columns.count; column++) {
                int slot = Columns.HELD + column;
                columns.put(slot, columns.get(slot) + way * shifts[act * MAX_COLUMNS + column]);
            }
        }

        boolean takeBack(Columns columns) {
            if (done < 1) {
                return false;
            }
            apply(columns, latest(), -1);
            done--;
            undone++;
            return true;
        }

        boolean doAgain(Columns columns) {
            if (undone < 1) {
                return false;
            }
            done++;
            undone--;
            apply(columns, latest(), 1);
            return true;
        }
    }

    /**
     * The states of all walks of t steps within a strip w, step by step. Seen from
     * the need backwards the strip is the same one, so a state is also a sum still
     * to go, and the column that led to it the next one of a walk: the choices kept
     * for each state tell the first of the best walks from its beginning.
     */
    private static final class Strip {
        static final int SIDE = 2 * MAX_STRIP + 1;
        /** Choices in one long, four bits each. */
        static final int PACK = 16;

        final Columns columns;
        final int[] low = new int[(MAX_STEPS + 1) * MAX_ROWS];
        final int[] high = new int[(MAX_STEPS + 1) * MAX_ROWS];
        final int[] at = new int[MAX_ROWS];
        int side1 = 1;
        int side2 = 1;
        int room;
        long[] ways = new long[0];
        int[] most = new int[0];
        int[] list = new int[0];
        long[] choices = new long[0];
        int keptT = NONE;
        int keptW = NONE;
        int keptStamp;
        int states;
        long leading;
        int greatest;

        Strip(Columns columns) {
            this.columns = columns;
        }

        void sweep(int t, int w) {
            if (t == keptT && w == keptW && columns.stamp == keptStamp) {
                return;
            }
            keptT = t;
            keptW = w;
            keptStamp = columns.stamp;
            makeRoom();
            setBounds(t, w);
            int size = start();
            states = size;
            for (int k = 0; k < t; k++) {
                int next = spread(k, size);
                clear(k, size);
                size = next;
                states += size;
            }
            readEnd(t);
            clear(t, size);
        }

        private void makeRoom() {
            int wanted = SIDE;
            for (int row = 1; row < columns.rows; row++) {
                wanted *= SIDE;
            }
            if (wanted > room) {
                room = wanted;
                ways = new long[2 * room];
                most = new int[2 * room];
                list = new int[2 * room];
                choices = new long[(MAX_STEPS + 1) * room / PACK + 1];
            }
        }

        private void setBounds(int t, int w) {
            side1 = columns.rows > 1 ? 2 * w + 1 : 1;
            side2 = columns.rows > 2 ? 2 * w + 1 : 1;
            for (int k = 0; k <= t; k++) {
                for (int row = 0; row < MAX_ROWS; row++) {
                    boolean counts = columns.hasRow(row);
                    int line = k * columns.needOf(row);
                    int by = Math.max(t, 1);
                    low[k * MAX_ROWS + row] = counts ? -Math.floorDiv(-line, by) - w : 0;
                    high[k * MAX_ROWS + row] = counts ? Math.floorDiv(line, by) + w : 0;
                }
            }
        }

        private static int layer(int k) {
            return k & 1;
        }

        private int start() {
            Arrays.fill(at, 0);
            int cell = cellOf(0);
            if (cell < 0) {
                return 0;
            }
            ways[cell] = 1;
            most[cell] = 0;
            list[0] = cell;
            return 1;
        }

        /** The cell of the sum that stands in 'at' behind k steps; NONE outside the strip. */
        private int cellOf(int k) {
            int base = k * MAX_ROWS;
            for (int row = 0; row < MAX_ROWS; row++) {
                if (at[row] < low[base + row] || at[row] > high[base + row]) {
                    return NONE;
                }
            }
            int first = at[0] - low[base];
            int second = at[1] - low[base + 1];
            return (first * side1 + second) * side2 + at[2] - low[base + 2];
        }

        private int spread(int k, int size) {
            if (side1 < 1 || side2 < 1) {
                return 0;
            }
            int from = layer(k) * room;
            int base = k * MAX_ROWS;
            int next = 0;
            for (int i = 0; i < size; i++) {
                int cell = list[from + i];
                at[2] = cell % side2 + low[base + 2];
                at[1] = cell / side2 % side1 + low[base + 1];
                at[0] = cell / side2 / side1 + low[base];
                next = leave(from + cell, k + 1, next);
            }
            return next;
        }

        /** Every column from the sum that stands in 'at', told apart here as cellOf does: this is the dearest loop. */
        private int leave(int source, int k, int size) {
            int base = k * MAX_ROWS;
            int to = layer(k) * room;
            int first = at[0] - low[base];
            int second = at[1] - low[base + 1];
            int third = at[2] - low[base + 2];
            int width = high[base] - low[base];
            int height = high[base + 1] - low[base + 1];
            int depth = high[base + 2] - low[base + 2];
            int next = size;
            for (int column = 0; column < columns.count; column++) {
                int a = first + columns.numberOf(column, 0);
                int b = second + columns.numberOf(column, 1);
                int c = third + columns.numberOf(column, 2);
                if (a < 0 || a > width || b < 0 || b > height || c < 0 || c > depth) {
                    continue;
                }
                int cell = (a * side1 + b) * side2 + c;
                if (reach(k, cell, source, column)) {
                    list[to + next] = cell;
                    next++;
                }
            }
            return next;
        }

        /** Whether the cell was not reached before. */
        private boolean reach(int k, int cell, int source, int column) {
            int to = layer(k) * room + cell;
            int gained = most[source] + columns.gainOf(column);
            boolean isNew = ways[to] == 0;
            if (isNew || gained > most[to] || gained == most[to] && column < choiceAt(k, cell)) {
                most[to] = gained;
                choose(k, cell, column);
            }
            ways[to] += ways[source];
            return isNew;
        }

        private void choose(int k, int cell, int column) {
            int place = k * room + cell;
            int shift = place % PACK * 4;
            choices[place / PACK] = choices[place / PACK] & ~(15L << shift) | (long) column << shift;
        }

        private int choiceAt(int k, int cell) {
            int place = k * room + cell;
            return (int) (choices[place / PACK] >>> place % PACK * 4) & 15;
        }

        private void clear(int k, int size) {
            int from = layer(k) * room;
            for (int i = 0; i < size; i++) {
                ways[from + list[from + i]] = 0;
            }
        }

        private void readEnd(int t) {
            leading = 0;
            greatest = 0;
            atNeed();
            int cell = cellOf(t);
            if (cell >= 0) {
                leading = ways[layer(t) * room + cell];
                greatest = most[layer(t) * room + cell];
            }
        }

        private void atNeed() {
            for (int row = 0; row < MAX_ROWS; row++) {
                at[row] = columns.needOf(row);
            }
        }

        int columnAt(int i) {
            atNeed();
            int column = NONE;
            for (int k = keptT; k > 0 && k >= keptT - i; k--) {
                int cell = cellOf(k);
                column = cell < 0 ? NONE : choiceAt(k, cell);
                if (!columns.hasColumn(column)) {
                    return NONE;
                }
                columns.addTo(at, column, -1);
            }
            return column;
        }
    }

    /** All plans of so many steps with a told sum, the first of them first. */
    private static final class PlanSearch {
        static final int ALL = 1000000;

        final int[] rest = new int[MAX_ROWS];
        final int[] often = new int[MAX_COLUMNS];
        final int[] bestOften = new int[MAX_COLUMNS];
        final int[] numbers = new int[MAX_COLUMNS * MAX_ROWS];
        /** Of each column and all behind it the least and the greatest number of a row. */
        final int[] lowest = new int[MAX_COLUMNS * MAX_ROWS];
        final int[] highest = new int[MAX_COLUMNS * MAX_ROWS];
        Columns columns;
        int enough;
        int found;
        int greatest;

        /** One column may be turned about (NONE: none is); ends when enough are found. */
        void run(Columns of, int turned, int steps, int[] target, int upTo) {
            columns = of;
            enough = upTo;
            found = 0;
            greatest = 0;
            System.arraycopy(target, 0, rest, 0, MAX_ROWS);
            for (int column = of.count - 1; column >= 0; column--) {
                takeNumbers(column, column == turned ? -1 : 1);
            }
            choose(0, steps, 0);
        }

        private void takeNumbers(int column, int sign) {
            for (int row = 0; row < MAX_ROWS; row++) {
                int place = column * MAX_ROWS + row;
                int v = sign * columns.numberOf(column, row);
                boolean isLast = column + 1 >= columns.count;
                numbers[place] = v;
                lowest[place] = isLast ? v : Math.min(v, lowest[place + MAX_ROWS]);
                highest[place] = isLast ? v : Math.max(v, highest[place + MAX_ROWS]);
            }
        }

        /** As deep as there are columns: each takes its share of the steps that are left. */
        private void choose(int column, int left, int gained) {
            if (column >= columns.count) {
                if (left == 0 && rest[0] == 0 && rest[1] == 0 && rest[2] == 0) {
                    take(gained);
                }
                return;
            }
            if (!isOutOfReach(column, left)) {
                share(column, left, gained);
            }
        }

        private void share(int column, int left, int gained) {
            // the last column takes all that is left
            int least = column == columns.count - 1 ? left : 0;
            for (int n = left; n >= least && found < enough; n--) {
                often[column] = n;
                shiftRest(column, -n);
                choose(column + 1, left - n, gained + n * columns.gainOf(column));
                shiftRest(column, n);
            }
        }

        private boolean isOutOfReach(int column, int left) {
            for (int row = 0; row < MAX_ROWS; row++) {
                int place = column * MAX_ROWS + row;
                if (rest[row] < left * lowest[place] || rest[row] > left * highest[place]) {
                    return true;
                }
            }
            return false;
        }

        private void shiftRest(int column, int by) {
            for (int row = 0; row < MAX_ROWS; row++) {
                rest[row] += by * numbers[column * MAX_ROWS + row];
            }
        }

        private void take(int gained) {
            found++;
            if (found == 1 || gained > greatest) {
                greatest = gained;
                System.arraycopy(often, 0, bestOften, 0, MAX_COLUMNS);
            }
        }
    }

    /** The best plan over all lengths, and the order of it that strays least. */
    private static final class Optimum {
        /** Parts of a plan of twelve steps of eight columns: at most 3 * 3 * 3 * 3 * 2 * 2 * 2 * 2. */
        static final int MAX_PARTS = 1296;

        final Columns columns;
        final PlanSearch search;
        final int[] often = new int[MAX_COLUMNS];
        final int[] strides = new int[MAX_COLUMNS];
        final int[] walk = new int[MAX_STEPS];
        final int[] sums = new int[MAX_ROWS];
        /** Of each part of the plan: how far at least one strays from there on. */
        final int[] strayFrom = new int[MAX_PARTS];
        int parts;
        boolean isKept;
        int keptStamp;
        boolean exists;
        int greatest;
        int length;
        int leastStray;
        int sortedStray;

        Optimum(Columns columns, PlanSearch search) {
            this.columns = columns;
            this.search = search;
        }

        /** Whether there is one. */
        boolean find() {
            if (!isKept || keptStamp != columns.stamp) {
                isKept = true;
                keptStamp = columns.stamp;
                findPlan();
                if (exists) {
                    findOrder();
                    sortedStray = straySorted();
                }
            }
            return exists;
        }

        int oftenOf(int column) {
            return often[column];
        }

        int columnAt(int i) {
            return walk[i];
        }

        private void findPlan() {
            exists = false;
            for (int t = 0; t <= columns.steps(); t++) {
                for (int row = 0; row < MAX_ROWS; row++) {
                    sums[row] = columns.needOf(row);
                }
                search.run(columns, NONE, t, sums, PlanSearch.ALL);
                if (search.found > 0 && (!exists || search.greatest > greatest)) {
                    exists = true;
                    greatest = search.greatest;
                    length = t;
                    System.arraycopy(search.bestOften, 0, often, 0, MAX_COLUMNS);
                }
            }
        }

        private void findOrder() {
            parts = 1;
            for (int column = 0; column < columns.count; column++) {
                strides[column] = parts;
                parts *= often[column] + 1;
            }
            if (parts > MAX_PARTS) {
                return;
            }
            for (int part = parts - 1; part >= 0; part--) {
                strayFrom[part] = Math.max(strayAtPart(part), leastBehind(part));
            }
            leastStray = strayFrom[0];
            int part = 0;
            for (int i = 0; i < length; i++) {
                walk[i] = firstWithin(part);
                part += strides[walk[i]];
            }
        }

        private int takenAt(int part, int column) {
            int shares = often[column] + 1;
            return strides[column] < 1 || shares < 1 ? 0 : part / strides[column] % shares;
        }

        private int strayAtPart(int part) {
            Arrays.fill(sums, 0);
            int k = 0;
            for (int column = 0; column < columns.count; column++) {
                int taken = takenAt(part, column);
                columns.addTo(sums, column, taken);
                k += taken;
            }
            return columns.strayAt(sums, length, k);
        }

        private int leastBehind(int part) {
            int least = NONE;
            for (int column = 0; column < columns.count; column++) {
                if (takenAt(part, column) < often[column]) {
                    int stray = strayFrom[part + strides[column]];
                    least = least == NONE ? stray : Math.min(least, stray);
                }
            }
            return least;
        }

        private int firstWithin(int part) {
            for (int column = 0; column < columns.count; column++) {
                if (takenAt(part, column) < often[column]
                    && strayFrom[part + strides[column]] <= leastStray) {
                    return column;
                }
            }
            return 0;
        }

        private int straySorted() {
            Arrays.fill(sums, 0);
            int most = 0;
            int k = 0;
            for (int column = 0; column < columns.count; column++) {
                for (int n = 0; n < often[column]; n++) {
                    columns.addTo(sums, column, 1);
                    k++;
                    most = Math.max(most, columns.strayAt(sums, length, k));
                }
            }
            return most;
        }
    }

    /** The corners of all plans of fractions, the best of them, and whether gains are endless. */
    private static final class Corners {
        /** One row more than a text may tell: for endless gains the shares together are 1. */
        static final int LINES = MAX_ROWS + 1;
        static final int WIDTH = LINES + 1;

        final Columns columns;
        final long[] cells = new long[LINES * WIDTH];
        final int[] members = new int[LINES];
        final long[] uppers = new long[MAX_COLUMNS];
        int size;
        long divisor;
        boolean isKept;
        int keptStamp;
        int corners;
        boolean endless;
        int set;
        long upperGain;
        long lower = 1;

        Corners(Columns columns) {
            this.columns = columns;
        }

        boolean isThere() {
            return corners > 0 && !endless;
        }

        long upperOf(int column) {
            return uppers[column];
        }

        void find() {
            if (isKept && keptStamp == columns.stamp) {
                return;
            }
            isKept = true;
            keptStamp = columns.stamp;
            corners = 0;
            endless = false;
            for (int bits = 0; bits < 1 << columns.count; bits++) {
                if (solve(bits, MAX_ROWS)) {
                    corners++;
                    takeIfBetter(bits);
                }
            }
            // a mix of columns that comes to nothing and gains can be added without end
            for (int bits = 1; bits < 1 << columns.count && corners > 0 && !endless; bits++) {
                endless = solve(bits, LINES) && solvedGain() > 0;
            }
        }

        private void takeIfBetter(int bits) {
            long gained = solvedGain();
            if (corners > 1 && gained * lower <= upperGain * divisor) {
                return;
            }
            set = bits;
            upperGain = gained;
            lower = divisor;
            Arrays.fill(uppers, 0);
            for (int i = 0; i < size; i++) {
                uppers[members[i]] = cells[i * WIDTH + size];
            }
        }

        /** What the latest solution gains, times its divisor. */
        private long solvedGain() {
            long gained = 0;
            for (int i = 0; i < size; i++) {
                gained += columns.gainOf(members[i]) * cells[i * WIDTH + size];
            }
            return gained;
        }

        /** Whether the columns of a set depend not on one another and give the sum with more than 0 of each. */
        private boolean solve(int bits, int lines) {
            if (Integer.bitCount(bits) > lines) {
                return false;
            }
            fill(bits, lines);
            divisor = 1;
            for (int i = 0; i < size; i++) {
                if (!eliminate(i, lines)) {
                    return false;
                }
            }
            for (int line = size; line < lines; line++) {
                if (cells[line * WIDTH + size] != 0) {
                    return false;
                }
            }
            return isAboveNothing();
        }

        private void fill(int bits, int lines) {
            size = 0;
            for (int column = 0; column < columns.count; column++) {
                if ((bits >> column & 1) != 0) {
                    members[size] = column;
                    for (int row = 0; row < MAX_ROWS; row++) {
                        cells[row * WIDTH + size] = columns.numberOf(column, row);
                    }
                    cells[MAX_ROWS * WIDTH + size] = 1;
                    size++;
                }
            }
            for (int row = 0; row < MAX_ROWS; row++) {
                cells[row * WIDTH + size] = lines == LINES ? 0 : columns.needOf(row);
            }
            cells[MAX_ROWS * WIDTH + size] = 1;
        }

        /** Without fractions: every line solved so far has the divisor as its own number. */
        private boolean eliminate(int i, int lines) {
            int line = i;
            while (line < lines && cells[line * WIDTH + i] == 0) {
                line++;
            }
            if (line >= lines || divisor == 0) {
                return false;
            }
            for (int at = 0; at <= size; at++) {
                long kept = cells[i * WIDTH + at];
                cells[i * WIDTH + at] = cells[line * WIDTH + at];
                cells[line * WIDTH + at] = kept;
            }
            long pivot = cells[i * WIDTH + i];
            for (int other = 0; other < lines; other++) {
                long factor = cells[other * WIDTH + i];
                for (int at = 0; at <= size && other != i; at++) {
                    long crossed = pivot * cells[other * WIDTH + at] - factor * cells[i * WIDTH + at];
                    cells[other * WIDTH + at] = crossed / divisor;
                }
            }
            divisor = pivot;
            return true;
        }

        private boolean isAboveNothing() {
            long sign = divisor < 0 ? -1 : 1;
            divisor *= sign;
            for (int i = 0; i < size; i++) {
                cells[i * WIDTH + size] *= sign;
                if (cells[i * WIDTH + size] <= 0) {
                    return false;
                }
            }
            return true;
        }
    }

    /** The best exchange of the held plan, found among all pairs of small plans of like sum. */
    private static final class Exchange {
        static final int MOST = 3;
        /** Plans of at most three steps of eight columns: 1 + 8 + 36 + 120. */
        static final int SMALL_PLANS = 165;

        final Columns columns;
        /** Where the plans of each size begin, in their order; behind the last one the end. */
        final int[] starts = new int[MOST + 2];
        /** The columns of a plan, each and one more in four bits. */
        final int[] members = new int[SMALL_PLANS];
        final int[] keys = new int[SMALL_PLANS];
        final int[] gains = new int[SMALL_PLANS];
        boolean isKept;
        int keptStamp;
        int keptR;
        int gained;
        int giving;
        int coming;
        int away;
        int others;

        Exchange(Columns columns) {
            this.columns = columns;
        }

        /** Whether there is one. */
        boolean find(int r) {
            if (r < 1 || r > MOST) {
                return false;
            }
            if (!isKept || keptStamp != columns.stamp || keptR != r) {
                isKept = true;
                keptStamp = columns.stamp;
                keptR = r;
                listPlans();
                findBest(r);
            }
            return gained > 0;
        }

        int shiftOf(int column) {
            return times(others, column) - times(away, column);
        }

        private void listPlans() {
            members[0] = 0;
            keys[0] = 0;
            gains[0] = 0;
            starts[0] = 0;
            starts[1] = 1;
            int size = 1;
            for (int steps = 1; steps <= MOST; steps++) {
                for (int plan = starts[steps - 1]; plan < starts[steps]; plan++) {
                    size = extend(plan, size);
                }
                starts[steps + 1] = size;
            }
        }

        private int extend(int plan, int size) {
            int latest = Math.max((members[plan] & 15) - 1, 0);
            for (int column = latest; column < columns.count && size < SMALL_PLANS; column++) {
                members[size] = members[plan] << 4 | column + 1;
                keys[size] = keys[plan] + keyOf(column);
                gains[size] = gains[plan] + columns.gainOf(column);
                size++;
            }
            return size;
        }

        /** Sums of three steps stay below 16, so no two of them have one key. */
        private int keyOf(int column) {
            return (columns.numberOf(column, 0) * 64 + columns.numberOf(column, 1)) * 64
                + columns.numberOf(column, 2);
        }

        private int times(int plan, int column) {
            int times = 0;
            for (int bits = members[plan]; bits > 0; bits >>= 4) {
                if ((bits & 15) == column + 1) {
                    times++;
                }
            }
            return times;
        }

        private void findBest(int r) {
            gained = 0;
            away = 0;
            others = 0;
            // sizes outside: of like gains the fewest come first, then the first plans
            for (int out = 0; out <= r; out++) {
                for (int in = 0; in <= r; in++) {
                    compareSizes(out, in);
                }
            }
        }

        private void compareSizes(int out, int in) {
            for (int leaving = starts[out]; leaving < starts[out + 1]; leaving++) {
                if (!isHeld(leaving)) {
                    continue;
                }
                for (int entering = starts[in]; entering < starts[in + 1]; entering++) {
                    if (keys[entering] == keys[leaving]
                        && gains[entering] - gains[leaving] > gained
                        && hasPlace(leaving, entering)) {
                        gained = gains[entering] - gains[leaving];
                        giving = out;
                        coming = in;
                        away = leaving;
                        others = entering;
                    }
                }
            }
        }

        private boolean isHeld(int plan) {
            for (int bits = members[plan]; bits > 0; bits >>= 4) {
                int column = (bits & 15) - 1;
                if (columns.heldOf(column) < times(plan, column)) {
                    return false;
                }
            }
            return true;
        }

        private boolean hasPlace(int leaving, int entering) {
            for (int bits = members[entering]; bits > 0; bits >>= 4) {
                int column = (bits & 15) - 1;
                int more = times(entering, column) - times(leaving, column);
                if (columns.heldOf(column) + more > MAX_HELD) {
                    return false;
                }
            }
            return true;
        }
    }

    /** Sums doubled level by level, kept near the part of the need that the level stands for. */
    private static final class Doubling {
        static final int LEVELS = 5;
        static final int MAX_SIDE = 7;
        static final int CELLS = MAX_SIDE * MAX_SIDE * MAX_SIDE;

        final Columns columns;
        final int[] sizes = new int[LEVELS];
        final int[] low = new int[MAX_ROWS];
        final int[] high = new int[MAX_ROWS];
        /** 1 for a sum that the level has. */
        final int[] isIn = new int[CELLS];
        /** The sums of a level, row behind row; two levels take turns. */
        final int[] sums = new int[2 * CELLS * MAX_ROWS];
        int size;
        boolean isKept;
        int keptStamp;
        int keptL;
        int keptW;
        boolean hasNeed;

        Doubling(Columns columns) {
            this.columns = columns;
        }

        int sizeOf(int level) {
            return sizes[level];
        }

        void raise(int l, int w) {
            if (isKept && keptStamp == columns.stamp && keptL == l && keptW == w) {
                return;
            }
            isKept = true;
            keptStamp = columns.stamp;
            keptL = l;
            keptW = w;
            beginLevel(l, w);
            addSum(0, 0, 0, 0);
            for (int column = 0; column < columns.count; column++) {
                addSum(0, columns.numberOf(column, 0), columns.numberOf(column, 1), columns.numberOf(column, 2));
            }
            sizes[0] = size;
            for (int level = 1; level <= l; level++) {
                int before = size;
                beginLevel(l - level, w);
                addPairs(level, before);
                sizes[level] = size;
            }
            int offset = offsetOf(columns.needOf(0), columns.needOf(1), columns.needOf(2));
            hasNeed = offset >= 0 && isIn[offset] == 1;
        }

        private void beginLevel(int halvings, int w) {
            size = 0;
            Arrays.fill(isIn, 0);
            int parts = Math.max(1 << halvings, 1);
            for (int row = 0; row < MAX_ROWS; row++) {
                int need = columns.needOf(row);
                low[row] = -Math.floorDiv(-need, parts) - w;
                high[row] = Math.floorDiv(need, parts) + w;
            }
        }

        private void addPairs(int level, int before) {
            int from = (level - 1 & 1) * CELLS * MAX_ROWS;
            for (int i = 0; i < before; i++) {
                int one = from + i * MAX_ROWS;
                for (int j = i; j < before; j++) {
                    int two = from + j * MAX_ROWS;
                    addSum(level, sums[one] + sums[two], sums[one + 1] + sums[two + 1], sums[one + 2] + sums[two + 2]);
                }
            }
        }

        private void addSum(int level, int a, int b, int c) {
            int offset = offsetOf(a, b, c);
            if (offset < 0 || isIn[offset] == 1 || size >= CELLS) {
                return;
            }
            isIn[offset] = 1;
            int to = (level & 1) * CELLS * MAX_ROWS + size * MAX_ROWS;
            sums[to] = a;
            sums[to + 1] = b;
            sums[to + 2] = c;
            size++;
        }

        /** NONE of a sum that is not near. */
        private int offsetOf(int a, int b, int c) {
            if (a < low[0] || a > high[0] || b < low[1] || b > high[1] || c < low[2] || c > high[2]) {
                return NONE;
            }
            return ((a - low[0]) * MAX_SIDE + b - low[1]) * MAX_SIDE + c - low[2];
        }
    }

    /**
     * What was seen, when it was told and untold. A text's columns stay as they are
     * till the next text, so by which turns something is so is found when it is told:
     * bit 0 for none, then a bit for each column.
     */
    private static final class Knowledge {
        static final int FARTHEST = MAX_SEEN_STEPS * MAX_NUMBER;
        static final int SPAN = 2 * FARTHEST + 1;
        static final int ASK_FROM = -20;
        static final int ASK_TO = 20;

        final Columns told;
        final PlanSearch search;
        final int[] turns = new int[MAX_SEEN];
        final int[] toldAt = new int[MAX_SEEN];
        final int[] untoldAt = new int[MAX_SEEN];
        /** By which turns a walk has a number in row 0; two lengths take turns. */
        final int[] reached = new int[2 * SPAN];
        int count;
        int time;
        int askFor;
        int askLeaves;

        Knowledge(Columns told, PlanSearch search) {
            this.told = told;
            this.search = search;
        }

        void forget() {
            count = 0;
        }

        int tell(int t, int[] sum, boolean is) {
            if (count >= MAX_SEEN) {
                return NONE;
            }
            int so = 0;
            for (int bit = 0; bit <= told.count; bit++) {
                search.run(told, bit - 1, t, sum, 1);
                if (search.found > 0 == is) {
                    so |= 1 << bit;
                }
            }
            turns[count] = so;
            toldAt[count] = time;
            untoldAt[count] = NONE;
            count++;
            return count - 1;
        }

        boolean takeAway(int which) {
            if (which < 0 || which >= count || untoldAt[which] != NONE) {
                return false;
            }
            untoldAt[which] = time;
            return true;
        }

        int fitting(int k) {
            int left = 1;
            for (int column = 0; column < told.count; column++) {
                if (!told.isNothing(column)) {
                    left |= 2 << column;
                }
            }
            for (int i = 0; i < count; i++) {
                boolean isUntold = untoldAt[i] != NONE && untoldAt[i] <= k;
                if (toldAt[i] <= k && !isUntold) {
                    left &= turns[i];
                }
            }
            return left;
        }

        void chooseAsk(int t, int fitting) {
            int base = reachRow(t);
            int all = Integer.bitCount(fitting);
            askLeaves = all + 1;
            for (int v = ASK_FROM; v <= ASK_TO; v++) {
                int with = Integer.bitCount(reached[base + FARTHEST + v] & fitting);
                int leaves = Math.max(with, all - with);
                if (leaves < askLeaves) {
                    askLeaves = leaves;
                    askFor = v;
                }
            }
        }

        /** Where the numbers behind t steps begin. */
        private int reachRow(int t) {
            Arrays.fill(reached, 0);
            reached[FARTHEST] = -1;
            int base = 0;
            for (int k = 0; k < t; k++) {
                int next = SPAN - base;
                for (int place = next; place < next + SPAN; place++) {
                    reached[place] = 0;
                }
                for (int column = 0; column < told.count; column++) {
                    int turned = 2 << column;
                    int by = told.numberOf(column, 0);
                    shiftRow(base, next, by, ~turned);
                    shiftRow(base, next, -by, turned);
                }
                base = next;
            }
            return base;
        }

        private void shiftRow(int from, int to, int by, int which) {
            for (int place = Math.max(0, -by); place < SPAN && place + by < SPAN; place++) {
                reached[to + place + by] |= reached[from + place] & which;
            }
        }
    }
}
