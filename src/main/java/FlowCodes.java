/** Controllers without a clock: flow tables, codes of signals, and what each signal comes to. */
public final class FlowCodes {
    public static final int NONE = -1, UNKNOWN = -1001, OUTSIDE = -1002, STATE = -1003, FULL = -1004;

    private static final int MOST_LETTERS = 40;
    private static final int LEAST_ROWS = 2, MOST_ROWS = 6;
    private static final int LEAST_ENTRIES = 2, MOST_ENTRIES = 4;
    private static final int MOST_SIGNALS = 5;
    private static final int COLUMN_BITS = 2;
    private static final int MOST_BITS = COLUMN_BITS + MOST_SIGNALS;
    private static final int MOST_POINTS = 1 << MOST_BITS;
    private static final long FIRST_DIGEST = 1667L;

    private final Page page;
    private final Flow flow;
    private final Partings partings;
    private final LeastCode leastCode;
    private final SignalCode theCode;
    private final Aims aims;
    private final Cubes cubes;
    private final Logic[] logics;
    private final Walker walker;
    private int unkept;
    private int tablesRead;

    public FlowCodes() {
        page = new Page();
        flow = new Flow();
        partings = new Partings();
        leastCode = new LeastCode();
        theCode = new SignalCode();
        aims = new Aims();
        cubes = new Cubes();
        logics = new Logic[MOST_SIGNALS];
        for (int i = 0; i < MOST_SIGNALS; i++) {
            logics[i] = new Logic();
        }
        walker = new Walker();
        unkept = 0;
        tablesRead = 0;
    }

    // ---- texts

    public int letter(int code) {
        if (code < 32 || code > 126) {
            return OUTSIDE;
        }
        return page.append(code) ? page.size : FULL;
    }

    public int blank() {
        int had = page.size;
        page.size = 0;
        return had;
    }

    public int fault() {
        page.scan();
        return page.fault;
    }

    public int table() {
        page.scan();
        if (!page.isTable()) {
            return STATE;
        }
        flow.read(page);
        page.size = 0;
        tablesRead++;
        walker.start(NONE);
        partings.empty();
        leastCode.forget();
        if (flow.normal) {
            partings.gather(flow);
            leastCode.find(flow.states, partings);
        }
        theCode.take(leastCode);
        settle();
        return flow.states;
    }

    // ---- the table

    public int entry(int state, int column) {
        if (!flow.hasState(state) || !flow.hasColumn(column)) {
            return UNKNOWN;
        }
        return flow.next(state, column);
    }

    public int about(int what) {
        if (what < 0 || what > 4) {
            return OUTSIDE;
        }
        if (flow.states == 0) {
            return STATE;
        }
        switch (what) {
            case 0:
                return flow.normal ? 1 : 0;
            case 1:
                return flow.amiss;
            case 2:
                return flow.moves;
            case 3:
                return flow.stables;
            default:
                return flow.normal ? partings.size : NONE;
        }
    }

    public int parting(int parting, int what) {
        if (what < 0 || what > 2) {
            return OUTSIDE;
        }
        if (!flow.normal) {
            return STATE;
        }
        if (parting < 0 || parting >= partings.size) {
            return UNKNOWN;
        }
        switch (what) {
            case 0:
                return partings.lesser(parting);
            case 1:
                return partings.greater(parting);
            default:
                return theCode.keepersOf(partings, parting);
        }
    }

    // ---- codes

    public int least(int signal) {
        if (signal < NONE || signal >= MOST_SIGNALS) {
            return OUTSIDE;
        }
        if (!flow.normal) {
            return STATE;
        }
        if (signal == NONE) {
            return leastCode.size > 0 ? leastCode.size : NONE;
        }
        return signal < leastCode.size ? leastCode.signals[signal] : NONE;
    }

    public int put(int bits) {
        if (!flow.normal) {
            return STATE;
        }
        if ((bits & ~flow.allStates()) != 0) {
            return OUTSIDE;
        }
        if (!theCode.add(bits)) {
            return FULL;
        }
        settle();
        return theCode.size;
    }

    public int clear() {
        if (!flow.normal) {
            return STATE;
        }
        int had = theCode.size;
        theCode.empty();
        settle();
        return had;
    }

    public int code(int state) {
        if (!flow.hasState(state)) {
            return UNKNOWN;
        }
        return flow.normal ? theCode.codeOf(state) : STATE;
    }

    public int coded(int what) {
        if (what < 0 || what > 5) {
            return OUTSIDE;
        }
        if (!flow.normal) {
            return STATE;
        }
        switch (what) {
            case 0:
                return theCode.size;
            case 1:
                return unkept == 0 ? 1 : 0;
            case 2:
                return unkept;
            case 3:
                return theCode.countWild(flow);
            case 4:
                return theCode.firstWild(flow);
            default:
                return theCode.mostChanges(flow);
        }
    }

    // ---- what each signal comes to

    public int wanted(int signal, int point) {
        int refusal = refusalOf(signal);
        if (refusal != 0) {
            return refusal;
        }
        if (point < 0 || point >= aims.points()) {
            return UNKNOWN;
        }
        return aims.at(signal, point);
    }

    public int logic(int signal, int what) {
        int refusal = refusalOf(signal);
        if (refusal != 0) {
            return refusal;
        }
        if (what < 0 || what > 5) {
            return OUTSIDE;
        }
        Logic worked = workedOut(signal);
        switch (what) {
            case 0:
                return worked.wideSize;
            case 1:
                return worked.sumSize;
            case 2:
                return worked.flickers;
            case 3:
                return worked.askedInSum();
            case 4:
                return aims.pointsWith(signal, 1);
            default:
                return aims.pointsWith(signal, 0);
        }
    }

    public int product(int signal, int product, int what) {
        int refusal = refusalOf(signal);
        if (refusal != 0) {
            return refusal;
        }
        return workedOut(signal).ofSum(product, what);
    }

    public int wide(int signal, int product, int what) {
        int refusal = refusalOf(signal);
        if (refusal != 0) {
            return refusal;
        }
        return workedOut(signal).ofWide(product, what);
    }

    // ---- walks

    public int walk(int state) {
        if (!flow.hasState(state)) {
            return UNKNOWN;
        }
        int ahead = walker.at;
        walker.start(state);
        return ahead;
    }

    public int turn(int column) {
        if (!flow.hasColumn(column)) {
            return UNKNOWN;
        }
        int next = flow.next(walker.at, column);
        if (next == NONE) {
            return STATE;
        }
        walker.go(next, theCode.changesBetween(walker.at, next));
        return next;
    }

    public int count(int what) {
        switch (what) {
            case 0:
                return page.size;
            case 1:
                return flow.states;
            case 2:
                return flow.columns;
            case 3:
                return walker.at;
            case 4:
                return walker.turns;
            case 5:
                return walker.changes;
            case 6:
                return tablesRead;
            default:
                return OUTSIDE;
        }
    }

    public long digest() {
        long h = FIRST_DIGEST;
        for (int state = 0; state < flow.states; state++) {
            for (int column = 0; column < flow.columns; column++) {
                h = mixed(h, entry(state, column));
            }
        }
        if (flow.states > 0) {
            for (int what = 0; what <= 4; what++) {
                h = mixed(h, about(what));
            }
        }
        if (flow.normal) {
            h = mixedCode(h);
        }
        for (int what = 0; what <= 5; what++) {
            h = mixed(h, coded(what));
        }
        if (isGood()) {
            for (int signal = 0; signal < theCode.size; signal++) {
                h = mixedLogic(h, signal);
            }
        }
        for (int place = 0; place < page.size; place++) {
            h = mixed(h, page.at(place));
        }
        for (int what = 0; what <= 6; what++) {
            h = mixed(h, count(what));
        }
        return h;
    }

    private static long mixed(long h, int number) {
        return 31L * h + number;
    }

    private long mixedCode(long before) {
        long h = before;
        for (int i = 0; i < partings.size; i++) {
            for (int what = 0; what <= 2; what++) {
                h = mixed(h, parting(i, what));
            }
        }
        for (int signal = NONE; signal < MOST_SIGNALS; signal++) {
            h = mixed(h, least(signal));
        }
        for (int state = 0; state < flow.states; state++) {
            h = mixed(h, code(state));
        }
        return h;
    }

    private long mixedLogic(long before, int signal) {
        long h = before;
        for (int what = 0; what <= 5; what++) {
            h = mixed(h, logic(signal, what));
        }
        int products = workedOut(signal).sumSize;
        for (int i = 0; i < products; i++) {
            h = mixed(h, product(signal, i, 0));
            h = mixed(h, product(signal, i, 1));
        }
        return h;
    }

    private boolean isGood() {
        return flow.normal && unkept == 0;
    }

    /** The refusal that all calls about a SIGNAL's sums have ahead of their own, or 0. */
    private int refusalOf(int signal) {
        if (!isGood()) {
            return STATE;
        }
        return signal < 0 || signal >= theCode.size ? UNKNOWN : 0;
    }

    /** What follows from THE CODE is brought up to date; sums wait until they are asked for. */
    private void settle() {
        unkept = theCode.countUnkept(partings);
        for (int i = 0; i < MOST_SIGNALS; i++) {
            logics[i].ready = false;
        }
        if (isGood()) {
            aims.chart(flow, theCode);
        }
    }

    private Logic workedOut(int signal) {
        Logic worked = logics[signal >= 0 && signal < MOST_SIGNALS ? signal : 0];
        if (!worked.ready) {
            cubes.look(aims, signal);
            worked.collectWide(cubes);
            worked.collectSum(aims, signal);
            worked.ready = true;
        }
        return worked;
    }

    /** THE PAGE, and how far it is like a TABLE. */
    static final class Page {
        private static final char BETWEEN = ';', OPEN = '-';

        private final char[] letters = new char[MOST_LETTERS];
        private int size;
        private int fault;
        private int rows;
        private int inRow;
        private int width;

        boolean append(int code) {
            if (size >= MOST_LETTERS) {
                return false;
            }
            letters[size] = (char) code;
            size++;
            return true;
        }

        int at(int place) {
            return place >= 0 && place < size ? letters[place] : 0;
        }

        /** Finds the first letter that no TABLE has, and counts ROWS and ENTRIES up to it. */
        void scan() {
            rows = 1;
            inRow = 0;
            width = 0;
            fault = 0;
            while (fault < size && fits(letters[fault])) {
                fault++;
            }
        }

        private boolean fits(char sign) {
            if (sign == BETWEEN) {
                return endsRow();
            }
            if (sign != OPEN && stateOf(sign) == NONE) {
                return false;
            }
            if (inRow >= (rows == 1 ? MOST_ENTRIES : width)) {
                return false;
            }
            inRow++;
            return true;
        }

        private boolean endsRow() {
            boolean full = rows == 1 ? inRow >= LEAST_ENTRIES : inRow == width;
            if (!full || rows >= MOST_ROWS) {
                return false;
            }
            width = inRow;
            rows++;
            inRow = 0;
            return true;
        }

        /** Whether the scan saw a whole TABLE with a ROW for each STATE that is told. */
        boolean isTable() {
            if (fault < size || rows < LEAST_ROWS || inRow != width) {
                return false;
            }
            for (int place = 0; place < size; place++) {
                if (stateOf(letters[place]) >= rows) {
                    return false;
                }
            }
            return true;
        }

        int stateAt(int row, int column) {
            return stateOf((char) at(row * (width + 1) + column));
        }

        private static int stateOf(char sign) {
            return sign >= 'a' && sign < 'a' + MOST_ROWS ? sign - 'a' : NONE;
        }
    }

    /** The TABLE; without one it has no STATES and is not NORMAL. */
    static final class Flow {
        private final int[] entries = new int[MOST_ROWS * MOST_ENTRIES];
        private int states;
        private int columns;
        private int moves;
        private int stables;
        private int amiss = NONE;
        private boolean normal;

        void read(Page page) {
            states = page.rows;
            columns = page.width;
            for (int state = 0; state < states; state++) {
                for (int column = 0; column < columns; column++) {
                    entries[MOST_ENTRIES * state + column] = page.stateAt(state, column);
                }
            }
            inspect();
        }

        private void inspect() {
            moves = 0;
            stables = 0;
            amiss = NONE;
            for (int state = 0; state < states; state++) {
                for (int column = 0; column < columns; column++) {
                    inspectEntry(state, column);
                }
            }
            normal = amiss == NONE;
        }

        private void inspectEntry(int state, int column) {
            int to = next(state, column);
            if (to == NONE) {
                return;
            }
            moves++;
            if (to == state) {
                stables++;
            }
            if (amiss == NONE && next(to, column) != to) {
                amiss = MOST_ENTRIES * state + column;
            }
        }

        boolean hasState(int state) {
            return state >= 0 && state < states;
        }

        boolean hasColumn(int column) {
            return column >= 0 && column < columns;
        }

        /** The ENTRY; NONE also where there is none. */
        int next(int state, int column) {
            return hasState(state) && hasColumn(column) ? entries[MOST_ENTRIES * state + column] : NONE;
        }

        int allStates() {
            return (1 << states) - 1;
        }
    }

    /** The PARTINGS in order, none of them inside another one. */
    static final class Partings {
        // Two STATES in 15 ways, and two MOVES of a COLUMN in 15 ways for each of four COLUMNS.
        private static final int MOST = 75;

        private final int[] lessers = new int[MOST];
        private final int[] greaters = new int[MOST];
        private int size;

        void empty() {
            size = 0;
        }

        int lesser(int parting) {
            return parting >= 0 && parting < size ? lessers[parting] : 0;
        }

        int greater(int parting) {
            return parting >= 0 && parting < size ? greaters[parting] : 0;
        }

        void gather(Flow flow) {
            empty();
            for (int s = 0; s < flow.states; s++) {
                for (int other = s + 1; other < flow.states; other++) {
                    offer(1 << s, 1 << other);
                    for (int column = 0; column < flow.columns; column++) {
                        offerMoves(flow, column, s, other);
                    }
                }
            }
        }

        private void offerMoves(Flow flow, int column, int s, int other) {
            int to = flow.next(s, column);
            int otherTo = flow.next(other, column);
            if (to != NONE && otherTo != NONE && to != otherTo) {
                offer(1 << s | 1 << to, 1 << other | 1 << otherTo);
            }
        }

        private void offer(int set, int otherSet) {
            int lesser = Math.min(set, otherSet);
            int greater = Math.max(set, otherSet);
            for (int i = 0; i < size; i++) {
                if (isInside(lesser, greater, lessers[i], greaters[i])) {
                    return;
                }
            }
            dropInside(lesser, greater);
            insert(lesser, greater);
        }

        private void dropInside(int lesser, int greater) {
            int left = 0;
            for (int i = 0; i < size; i++) {
                if (!isInside(lessers[i], greaters[i], lesser, greater)) {
                    lessers[left] = lessers[i];
                    greaters[left] = greaters[i];
                    left++;
                }
            }
            size = left;
        }

        private void insert(int lesser, int greater) {
            if (size >= MOST) {
                return;
            }
            int place = size;
            while (place > 0 && isBehind(place - 1, lesser, greater)) {
                lessers[place] = lessers[place - 1];
                greaters[place] = greaters[place - 1];
                place--;
            }
            lessers[place] = lesser;
            greaters[place] = greater;
            size++;
        }

        private boolean isBehind(int parting, int lesser, int greater) {
            return lessers[parting] > lesser || lessers[parting] == lesser && greaters[parting] > greater;
        }

        private static boolean isInside(int one, int other, int wideOne, int wideOther) {
            return (one & ~wideOne) == 0 && (other & ~wideOther) == 0
                || (one & ~wideOther) == 0 && (other & ~wideOne) == 0;
        }

        boolean isKeptBy(int parting, int signal) {
            int ofLesser = signal & lesser(parting);
            int ofGreater = signal & greater(parting);
            return ofLesser == 0 && ofGreater == greater(parting)
                || ofGreater == 0 && ofLesser == lesser(parting);
        }
    }

    /**
     * The search for the LEAST CODE. Its signals are even numbers (0 for "a"), so a candidate is
     * half a signal. PARTINGS are bits of a long: a COLUMN brings ten at most that are in no other
     * one unless all are single STATES, so there are never more than 4 * 10 + 15.
     */
    static final class LeastCode {
        private static final int MOST_CANDIDATES = 1 << (MOST_ROWS - 1);

        private final int[] signals = new int[MOST_SIGNALS];
        private final long[] kept = new long[MOST_CANDIDATES];
        private final long[] keptFrom = new long[MOST_CANDIDATES + 1];
        private int candidates;
        private int size;

        void forget() {
            size = 0;
        }

        void find(int states, Partings partings) {
            prepare(states, partings);
            size = 0;
            long all = keptFrom[0];
            for (int tried = 1; tried <= MOST_SIGNALS && size == 0; tried++) {
                if (fill(0, tried, 0, all)) {
                    size = tried;
                }
            }
        }

        private void prepare(int states, Partings partings) {
            candidates = states >= LEAST_ROWS && states <= MOST_ROWS ? 1 << (states - 1) : 0;
            keptFrom[candidates] = 0L;
            for (int half = candidates - 1; half >= 0; half--) {
                long mask = 0L;
                for (int i = 0; i < partings.size; i++) {
                    if (partings.isKeptBy(i, 2 * half)) {
                        mask |= 1L << i;
                    }
                }
                kept[half] = mask;
                keptFrom[half] = keptFrom[half + 1] | mask;
            }
        }

        /** Fills signals from depth on with rising candidates that keep all that is left. */
        private boolean fill(int depth, int tried, int from, long left) {
            if (depth >= tried || depth >= MOST_SIGNALS) {
                return left == 0L;
            }
            boolean last = depth == tried - 1;
            for (int half = from; half < candidates && (left & ~keptFrom[half]) == 0L; half++) {
                long rest = left & ~kept[half];
                // A candidate that keeps nothing new would leave a smaller code, which was tried.
                boolean hopeful = last ? rest == 0L : rest != left;
                if (hopeful && fill(depth + 1, tried, half + 1, rest)) {
                    signals[depth] = 2 * half;
                    return true;
                }
            }
            return false;
        }
    }

    /** THE CODE. */
    static final class SignalCode {
        private final int[] signals = new int[MOST_SIGNALS];
        private final int[] codes = new int[MOST_ROWS];
        private int size;

        void empty() {
            size = 0;
            for (int state = 0; state < MOST_ROWS; state++) {
                codes[state] = 0;
            }
        }

        boolean add(int bits) {
            if (size >= MOST_SIGNALS) {
                return false;
            }
            signals[size] = bits;
            for (int state = 0; state < MOST_ROWS; state++) {
                codes[state] |= ((bits >> state) & 1) << size;
            }
            size++;
            return true;
        }

        void take(LeastCode least) {
            empty();
            for (int i = 0; i < least.size; i++) {
                add(least.signals[i]);
            }
        }

        int codeOf(int state) {
            return state >= 0 && state < MOST_ROWS ? codes[state] : 0;
        }

        int changesBetween(int from, int to) {
            return Integer.bitCount(codeOf(from) ^ codeOf(to));
        }

        int keepersOf(Partings partings, int parting) {
            int keepers = 0;
            for (int i = 0; i < size; i++) {
                if (partings.isKeptBy(parting, signals[i])) {
                    keepers++;
                }
            }
            return keepers;
        }

        int countUnkept(Partings partings) {
            int unkept = 0;
            for (int i = 0; i < partings.size; i++) {
                if (keepersOf(partings, i) == 0) {
                    unkept++;
                }
            }
            return unkept;
        }

        int countWild(Flow flow) {
            int wild = 0;
            for (int state = 0; state < flow.states; state++) {
                for (int column = 0; column < flow.columns; column++) {
                    if (isWild(flow, state, column)) {
                        wild++;
                    }
                }
            }
            return wild;
        }

        int firstWild(Flow flow) {
            for (int state = 0; state < flow.states; state++) {
                for (int column = 0; column < flow.columns; column++) {
                    if (isWild(flow, state, column)) {
                        return MOST_ENTRIES * state + column;
                    }
                }
            }
            return NONE;
        }

        private boolean isWild(Flow flow, int state, int column) {
            int to = flow.next(state, column);
            if (to == NONE) {
                return false;
            }
            for (int other = 0; other < flow.states; other++) {
                int otherTo = flow.next(other, column);
                if (otherTo != NONE && otherTo != to && waysMeet(state, to, other, otherTo)) {
                    return true;
                }
            }
            return false;
        }

        /** Two ways meet unless some SIGNAL stays 0 on the one and 1 on the other one. */
        private boolean waysMeet(int from, int to, int otherFrom, int otherTo) {
            int changing = (codeOf(from) ^ codeOf(to)) | (codeOf(otherFrom) ^ codeOf(otherTo));
            return ((codeOf(from) ^ codeOf(otherFrom)) & ~changing) == 0;
        }

        int mostChanges(Flow flow) {
            int most = 0;
            for (int state = 0; state < flow.states; state++) {
                for (int column = 0; column < flow.columns; column++) {
                    int to = flow.next(state, column);
                    if (to != NONE) {
                        most = Math.max(most, changesBetween(state, to));
                    }
                }
            }
            return most;
        }
    }

    /** For each POINT the CODE to which one goes from there: what is WANTED of all SIGNALS. */
    static final class Aims {
        private final int[] codes = new int[MOST_POINTS];
        private int bits;

        int points() {
            return 1 << bits;
        }

        void chart(Flow flow, SignalCode code) {
            bits = COLUMN_BITS + code.size;
            for (int point = 0; point < MOST_POINTS; point++) {
                codes[point] = NONE;
            }
            for (int state = 0; state < flow.states; state++) {
                for (int column = 0; column < flow.columns; column++) {
                    int to = flow.next(state, column);
                    if (to != NONE) {
                        chartWay(column, code.codeOf(state), code.codeOf(to));
                    }
                }
            }
        }

        private void chartWay(int column, int from, int to) {
            int changing = from ^ to;
            for (int code = 0; code < 1 << MOST_SIGNALS; code++) {
                if (((code ^ from) & ~changing) == 0) {
                    codes[(code << COLUMN_BITS) + column] = to;
                }
            }
        }

        /** WANTED: 1, 0, or NONE where it is FREE. */
        int at(int signal, int point) {
            if (point < 0 || point >= MOST_POINTS || codes[point] == NONE) {
                return NONE;
            }
            return (codes[point] >> signal) & 1;
        }

        int pointsWith(int signal, int value) {
            int found = 0;
            for (int point = 0; point < points(); point++) {
                if (at(signal, point) == value) {
                    found++;
                }
            }
            return found;
        }
    }

    /** All PRODUCTS of a SIGNAL, with what is WANTED at their POINTS. */
    static final class Cubes {
        private static final int HAS_ONE = 1, HAS_ZERO = 2;
        private static final int PRODUCTS = 2187;

        private final byte[] seen = new byte[PRODUCTS];
        private final int[] inThrees = new int[MOST_POINTS];
        private int all;

        Cubes() {
            for (int mask = 1; mask < MOST_POINTS; mask++) {
                inThrees[mask] = 3 * inThrees[mask >> 1] + (mask & 1);
            }
        }

        /** A digit to the base 3 for each BIT: 0, 1, or 2 if it is not ASKED. */
        private int indexOf(int asked, int ones) {
            return inThrees[ones & asked & all] + 2 * inThrees[all & ~asked];
        }

        /** PRODUCTS with more ASKED come first, since the others are put together from them. */
        void look(Aims aims, int signal) {
            all = aims.points() - 1;
            for (int asked = all; asked >= 0; asked--) {
                int free = all & ~asked;
                int spare = free & -free;
                int ones = 0;
                for (int left = 1 << Integer.bitCount(asked); left > 0; left--) {
                    int found = spare == 0
                        ? seenAtPoint(aims.at(signal, ones))
                        : seen[indexOf(asked | spare, ones)] | seen[indexOf(asked | spare, ones | spare)];
                    seen[indexOf(asked, ones)] = (byte) found;
                    ones = (ones - asked) & asked;
                }
            }
        }

        private static int seenAtPoint(int wantedThere) {
            if (wantedThere == NONE) {
                return 0;
            }
            return wantedThere == 1 ? HAS_ONE : HAS_ZERO;
        }

        boolean isWide(int asked, int ones) {
            if (seen[indexOf(asked, ones)] != HAS_ONE) {
                return false;
            }
            for (int place = 0; place < MOST_BITS; place++) {
                int bit = 1 << place;
                if ((asked & bit) != 0 && seen[indexOf(asked & ~bit, ones & ~bit)] == HAS_ONE) {
                    return false;
                }
            }
            return true;
        }
    }

    /** WIDE PRODUCTS and SUM of one SIGNAL. */
    static final class Logic {
        // No WIDE PRODUCT is inside another one, and of those of seven BITS at most so many can be
        // so: all that ask five (21 ways to choose these, 32 ways to fill them).
        private static final int MOST_WIDE = 672;

        private final int[] asked = new int[MOST_WIDE];
        private final int[] ones = new int[MOST_WIDE];
        private final int[] sum = new int[MOST_WIDE];
        private int wideSize;
        private int sumSize;
        private int flickers;
        private boolean ready;

        void collectWide(Cubes cubes) {
            wideSize = 0;
            for (int asks = 0; asks <= cubes.all; asks++) {
                int values = 0;
                for (int left = 1 << Integer.bitCount(asks); left > 0; left--) {
                    if (wideSize < MOST_WIDE && cubes.isWide(asks, values)) {
                        asked[wideSize] = asks;
                        ones[wideSize] = values;
                        wideSize++;
                    }
                    values = (values - asks) & asks;
                }
            }
        }

        void collectSum(Aims aims, int signal) {
            sumSize = 0;
            for (int point = 0; point < aims.points(); point++) {
                if (aims.at(signal, point) == 1) {
                    cover(point, 0);
                }
            }
            int plain = sumSize;
            for (int point = 0; point < aims.points(); point++) {
                for (int place = 0; place < aims.bits; place++) {
                    int bit = 1 << place;
                    boolean low = (point & bit) == 0;
                    if (low && aims.at(signal, point) == 1 && aims.at(signal, point | bit) == 1) {
                        cover(point, bit);
                    }
                }
            }
            flickers = sumSize - plain;
        }

        /** Sees to it that one PRODUCT of SUM has the POINT, and the one with the bit as 1 (0: no bit). */
        private void cover(int point, int bit) {
            for (int i = 0; i < sumSize; i++) {
                if (hasBoth(sum[i], point, bit)) {
                    return;
                }
            }
            int best = NONE;
            int fewest = MOST_BITS + 1;
            for (int i = 0; i < wideSize; i++) {
                if (hasBoth(i, point, bit) && Integer.bitCount(asked[i]) < fewest) {
                    best = i;
                    fewest = Integer.bitCount(asked[i]);
                }
            }
            if (best != NONE && sumSize < MOST_WIDE) {
                sum[sumSize] = best;
                sumSize++;
            }
        }

        private boolean hasBoth(int product, int point, int bit) {
            return (asked[product] & bit) == 0 && (point & asked[product]) == ones[product];
        }

        int askedInSum() {
            int all = 0;
            for (int i = 0; i < sumSize; i++) {
                all += Integer.bitCount(asked[sum[i]]);
            }
            return all;
        }

        int ofSum(int product, int what) {
            return product >= 0 && product < sumSize ? ofWide(sum[product], what) : UNKNOWN;
        }

        int ofWide(int product, int what) {
            if (product < 0 || product >= wideSize) {
                return UNKNOWN;
            }
            if (what == 0) {
                return asked[product];
            }
            return what == 1 ? ones[product] : OUTSIDE;
        }
    }

    /** Where one walks, and what changed since then. */
    static final class Walker {
        private int at = NONE;
        private int turns;
        private int changes;

        void start(int state) {
            at = state;
            turns = 0;
            changes = 0;
        }

        void go(int state, int changed) {
            at = state;
            turns++;
            changes += changed;
        }
    }
}
