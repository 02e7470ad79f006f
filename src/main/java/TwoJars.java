import java.util.Arrays;

/** Two jars and a stair: plans, rules, told drops and drops in deed; ../shared/DOC.md says what each call answers. */
public final class TwoJars {
    public static final int BAD = -1, NOT = -2, FULL = -3, STATE = -5, VOID = -2000000000;

    private static final int NOTHING_THERE = -11, UNLIKE = -12, NO_PLACE = -13, NO_SIZE = -14;
    private static final int MOST_STEPS = 60, MOST_HEIGHTS = 61, MOST_JARS = 6;
    private static final int MOST_TRODDEN_STEPS = 24, MOST_TOWER_HEIGHTS = 31;
    private static final int SHELVES = 6, MOST_ELEMENTS = 60, MOST_ROW_DROPS = 20;
    // Far above every cost, and far enough below the greatest int that costs can be added to it.
    private static final int NEVER = 1 << 28;

    private final Tower tower = new Tower();
    private final Law text = new Law();
    private final Ladder worstPlans = new Ladder(false);
    private final Ladder pricePlans = new Ladder(false);
    private final Ladder evenPlans = new Ladder(true);
    private final Means means = new Means();
    private final Treads treads = new Treads();
    private final Pair pair = new Pair();
    private final Span asked = new Span();
    private final Walk walk = new Walk();
    private final Span told = new Span();
    private final Hidden hidden = new Hidden();
    private final Hidden kept = new Hidden();
    private final Bodies bodies = new Bodies();
    private final Shelf[] shelves = new Shelf[SHELVES];
    private int toldWise;
    private boolean imageKept;

    public TwoJars() {
        for (int i = 0; i < SHELVES; i++) {
            shelves[i] = new Shelf();
        }
    }

    // ---- the tower

    public int mend(int what, int v) {
        return Tower.fits(what, v) ? tower.change(what, v) : BAD;
    }

    public int of(int what) {
        return tower.value(what);
    }

    public int feed(int letter) {
        return letter < 0 || letter > 255 ? BAD : text.take(letter);
    }

    public int law() {
        return text.become();
    }

    public int weight(int height) {
        if (!within(height, 0, tower.steps())) {
            return BAD;
        }
        return text.weightFor(height, tower.steps(), tower.jars());
    }

    // ---- plans

    public int worst(int mj, int what) {
        worstPlans.prepare(1, 0);
        return laddered(worstPlans, mj, what);
    }

    public int reach(int dj) {
        int d = dj / 10;
        int j = dj % 10;
        if (dj < 0 || d > 20 || j > MOST_JARS) {
            return BAD;
        }
        int ways = 1;
        int heights = 1;
        for (int broken = 1; broken <= j; broken++) {
            ways = ways * (d - broken + 1) / broken;
            heights += ways;
        }
        return heights;
    }

    public int mean(int span, int j, int part) {
        if (!asksSpan(span, j) || !within(part, 0, 1)) {
            return BAD;
        }
        means.weigh(text, tower);
        boolean even = means.weightOf(asked) == 0;
        evenPlans.prepare(1, 0);
        int cost = even ? evenPlans.cost(asked.jars, asked.heights()) : means.cost(asked);
        if (cost >= NEVER) {
            return NOT;
        }
        int all = even ? asked.heights() : means.weightOf(asked);
        int common = Math.max(1, commonDivisor(cost, all));
        return part == 0 ? cost / common : all / common;
    }

    public int meanFirst(int span, int j) {
        if (!asksSpan(span, j)) {
            return BAD;
        }
        if (asked.isSure() || asked.jars == 0) {
            return NOT;
        }
        means.weigh(text, tower);
        return firstByMean(asked);
    }

    public int trodden(int span, int aj, int what) {
        int a = aj / 10;
        if (aj < 0 || a > tower.steps() || !asksSpan(span, aj % 10) || !within(what, 0, 1)) {
            return BAD;
        }
        if (tower.steps() > MOST_TRODDEN_STEPS) {
            return STATE;
        }
        if (asked.isSure()) {
            return what == 0 ? 0 : NOT;
        }
        treads.prepare();
        int first = treads.firstFrom(asked, a);
        if (first == 0) {
            return NOT;
        }
        return what == 0 ? treads.costFrom(asked, a, first) : first;
    }

    public int price(int mj, int what) {
        pricePlans.prepare(tower.value(Tower.DROP_PRICE), tower.value(Tower.JAR_PRICE));
        return laddered(pricePlans, mj, what);
    }

    public int two(int mm, int j, int what) {
        int m1 = mm / 100;
        int m2 = mm % 100;
        if (mm < 0 || !within(m1, 1, MOST_TOWER_HEIGHTS) || !within(m2, 1, MOST_TOWER_HEIGHTS)
                || !within(j, 0, MOST_JARS) || !within(what, 0, 1)) {
            return BAD;
        }
        pair.prepare();
        int need = pair.need(j, m1, m2);
        if (need >= NEVER || what == 1 && need == 0) {
            return NOT;
        }
        if (what == 0) {
            return need;
        }
        return pair.bestIn(j, m1, m2) == need ? 0 : 1;
    }

    // ---- rules, told drops

    public int ruled(int rule, int height, int what) {
        if (!within(rule, 0, 1) || !within(height, 0, tower.steps()) || !within(what, 0, 1)) {
            return BAD;
        }
        if (!walks(rule, height)) {
            return NOT;
        }
        return what == 0 ? walk.drops : walk.breaks;
    }

    public int step(int rule, int height, int k) {
        if (!within(rule, 0, 1) || !within(height, 0, tower.steps()) || k < 0) {
            return BAD;
        }
        return walks(rule, height) ? walk.stepAt(k) : NOT;
    }

    public long shards(int rule, int db) {
        if (!within(rule, 0, 1) || db < 0) {
            return Long.MIN_VALUE;
        }
        long heights = 0;
        for (int height = 0; height <= tower.steps(); height++) {
            if (!walks(rule, height)) {
                return NOT;
            }
            if (walk.drops == db / 10 && walk.breaks == db % 10) {
                heights |= 1L << height;
            }
        }
        return heights;
    }

    public int judge(int shelf) {
        int refused = refusesBytes(shelf);
        return refused != 0 ? refused : listen(shelves[shelf]);
    }

    public int left(int shelf, int what) {
        if (!within(what, 0, 2)) {
            return BAD;
        }
        int refused = refusesBytes(shelf);
        if (refused != 0) {
            return refused;
        }
        if (listen(shelves[shelf]) != NOT) {
            return STATE;
        }
        if (what == 0) {
            return told.lo;
        }
        return what == 1 ? told.hi : told.jars;
    }

    public int wise(int shelf) {
        int refused = refusesBytes(shelf);
        if (refused != 0) {
            return refused;
        }
        return listen(shelves[shelf]) == NOT ? toldWise : STATE;
    }

    public int drawn(int seed, int rn, int what) {
        int rule = rn / 100;
        int n = rn % 100;
        if (rn < 0 || rule > 1 || !within(n, 1, 60) || !within(what, 0, 1)) {
            return BAD;
        }
        means.weigh(text, tower);
        int z = seed;
        int sum = 0;
        for (int i = 0; i < n; i++) {
            z = nextSeed(z);
            if (!walks(rule, heightFor(z))) {
                return NOT;
            }
            sum += what == 0 ? walk.drops : walk.breaks;
        }
        return sum;
    }

    // ---- in deed

    public int hide(int seed) {
        means.weigh(text, tower);
        hidden.begin(heightFor(nextSeed(seed)), tower.steps(), tower.jars());
        return tower.steps();
    }

    public int drop(int step) {
        if (!within(step, 1, stepsInDeed())) {
            return BAD;
        }
        if (!hidden.there || hidden.span.jars == 0) {
            return STATE;
        }
        return hidden.dropFrom(step) ? 1 : 0;
    }

    public int drops(int shelf, int i, int n) {
        if (!isShelf(shelf) || !within(n, 1, MOST_ROW_DROPS)) {
            return BAD;
        }
        int refused = refusesBytes(shelf);
        if (refused == UNLIKE) {
            return UNLIKE;
        }
        if (!hidden.there) {
            return STATE;
        }
        return refused == NOTHING_THERE ? 0 : dropAll(shelves[shelf], i, n);
    }

    public int guess(int height) {
        if (!within(height, 0, stepsInDeed())) {
            return BAD;
        }
        if (!hidden.there) {
            return STATE;
        }
        return hidden.isGuessed(height) ? 1 : 0;
    }

    public int led(int what) {
        if (!within(what, 0, 5)) {
            return BAD;
        }
        if (what < 4 && !hidden.there) {
            return STATE;
        }
        switch (what) {
            case 0:
                return hidden.drops;
            case 1:
                return hidden.broken;
            case 2:
                return hidden.span.lo;
            case 3:
                return hidden.span.hi;
            case 4:
                return hidden.right;
            default:
                return hidden.guesses;
        }
    }

    public int image() {
        kept.copy(hidden);
        imageKept = true;
        return dropsInDeed();
    }

    public int back() {
        if (!imageKept) {
            return STATE;
        }
        hidden.copy(kept);
        return dropsInDeed();
    }

    public int undo() {
        return tower.takeBack();
    }

    public int redo() {
        return tower.doAgain();
    }

    // ---- acts, shelves

    public int body(int kind) {
        return Bodies.isKind(kind) ? bodies.add(kind) : BAD;
    }

    public int act(int body, int act, int x) {
        return bodies.play(body, act, x);
    }

    public int trace(int i) {
        return bodies.traced(i);
    }

    public int keep(int shelf, int body) {
        if (!isShelf(shelf) || body != -1 && !bodies.has(body)) {
            return BAD;
        }
        shelves[shelf].holdBody(body);
        return 1;
    }

    public int row(int shelf, int sort, int n) {
        if (!isShelf(shelf) || !within(sort, Shelf.BYTES, Shelf.BOOLEANS) || n > MOST_ELEMENTS) {
            return BAD;
        }
        if (n < 0) {
            return NO_SIZE;
        }
        shelves[shelf].holdRow(sort, n);
        return 1;
    }

    public int put(int shelf, int i, long v) {
        int refused = refusesPlace(shelf, i);
        if (refused != 0) {
            return refused;
        }
        shelves[shelf].set(i, v);
        return 1;
    }

    public long element(int shelf, int i) {
        return refusesPlace(shelf, i) != 0 ? Long.MIN_VALUE : shelves[shelf].get(i);
    }

    public int shift(int shelf, int i, int other, int j, int n) {
        if (!isShelf(shelf) || !isShelf(other)) {
            return BAD;
        }
        Shelf from = shelves[shelf];
        Shelf to = shelves[other];
        if (from.isEmpty() || to.isEmpty()) {
            return NOTHING_THERE;
        }
        if (!from.isRow() || !to.isRow() || from.sort != to.sort) {
            return UNLIKE;
        }
        if (!from.hasPlaces(i, n) || !to.hasPlaces(j, n)) {
            return NO_PLACE;
        }
        System.arraycopy(from.elements, i, to.elements, j, n);
        return n;
    }

    public int taken(int shelf, int k) {
        if (!isShelf(shelf) || !Bodies.isKind(k)) {
            return BAD;
        }
        Shelf holder = shelves[shelf];
        if (holder.isEmpty()) {
            return NOTHING_THERE;
        }
        int kind = holder.isRow() ? -1 : bodies.kindOf(holder.body);
        return Bodies.isUnder(kind, k) ? kind : UNLIKE;
    }

    public int count(int what) {
        switch (what) {
            case 0:
                return text.length;
            case 1:
                return tower.done;
            case 2:
                return bodies.size;
            case 3:
                return bodies.ran;
            default:
                return BAD;
        }
    }

    // ---- what several calls share

    private static boolean within(int v, int least, int most) {
        return v >= least && v <= most;
    }

    private static boolean isShelf(int shelf) {
        return within(shelf, 0, SHELVES - 1);
    }

    private static int commonDivisor(int a, int b) {
        int greater = a;
        int rest = b;
        // Two ints are done in fewer than fifty turns.
        for (int turn = 0; turn < 64 && rest != 0; turn++) {
            int next = greater % rest;
            greater = rest;
            rest = next;
        }
        return greater;
    }

    private int laddered(Ladder plans, int mj, int what) {
        int m = mj / 10;
        int j = mj % 10;
        if (mj < 0 || !within(m, 1, MOST_HEIGHTS) || j > MOST_JARS || !within(what, 0, 1)) {
            return BAD;
        }
        int cost = plans.cost(j, m);
        if (cost >= NEVER || what == 1 && m == 1) {
            return NOT;
        }
        return what == 0 ? cost : plans.first(j, m);
    }

    private boolean asksSpan(int span, int j) {
        int lo = span / 100;
        int hi = span % 100;
        if (span < 0 || lo > hi || hi > tower.steps() || !within(j, 0, MOST_JARS)) {
            return false;
        }
        asked.become(lo, hi, j);
        return true;
    }

    /** The means must have been weighed. */
    private int firstByMean(Span span) {
        if (means.weightOf(span) == 0) {
            evenPlans.prepare(1, 0);
            return span.lo + evenPlans.first(span.jars, span.heights());
        }
        return means.first(span);
    }

    /** Follows a rule for one height; the walk then holds its drops. False: the rule can't be. */
    private boolean walks(int rule, int height) {
        worstPlans.prepare(1, 0);
        means.weigh(text, tower);
        Span span = walk.span;
        walk.begin(tower.steps(), tower.jars());
        for (int drop = 0; drop < MOST_STEPS && !span.isSure(); drop++) {
            if (span.jars == 0) {
                return false;
            }
            int step = rule == 0 ? span.lo + worstPlans.first(span.jars, span.heights()) : firstByMean(span);
            walk.add(step, height);
        }
        return span.isSure();
    }

    private int refusesBytes(int shelf) {
        if (!isShelf(shelf)) {
            return BAD;
        }
        if (shelves[shelf].isEmpty()) {
            return NOTHING_THERE;
        }
        return shelves[shelf].isRow() && shelves[shelf].sort == Shelf.BYTES ? 0 : UNLIKE;
    }

    private int refusesPlace(int shelf, int i) {
        if (!isShelf(shelf)) {
            return BAD;
        }
        if (shelves[shelf].isEmpty()) {
            return NOTHING_THERE;
        }
        if (!shelves[shelf].isRow()) {
            return UNLIKE;
        }
        return shelves[shelf].hasPlaces(i, 1) ? 0 : NO_PLACE;
    }

    /** Goes through told drops: the first that can't be, or NOT; what is left and how many were wise stay noted. */
    private int listen(Shelf row) {
        told.become(0, tower.steps(), tower.jars());
        toldWise = 0;
        for (int at = 0; at < row.size; at += 2) {
            int step = (int) row.get(at);
            if (at + 1 >= row.size || !canBe(step, row.get(at + 1))) {
                return at / 2;
            }
            if (isWise(told, step)) {
                toldWise++;
            }
            told.part(step, row.get(at + 1) == 1);
        }
        return NOT;
    }

    private boolean canBe(int step, long outcome) {
        if (!within(step, 1, tower.steps()) || told.jars == 0) {
            return false;
        }
        if (outcome == 1) {
            return step > told.lo;
        }
        return outcome == 0 && step <= told.hi;
    }

    private boolean isWise(Span span, int step) {
        worstPlans.prepare(1, 0);
        int after = worstPlans.after(span.jars, span.heights(), step - span.lo);
        return after < NEVER && after == worstPlans.cost(span.jars, span.heights());
    }

    private static int nextSeed(int z) {
        return z * 1103515245 + 12345;
    }

    /** The means must have been weighed. */
    private int heightFor(int z) {
        int steps = tower.steps();
        int all = means.weightTo(steps);
        if (all <= 0) {
            return (z >>> 8) % (steps + 1);
        }
        int rest = (z >>> 8) % all;
        for (int height = 0; height < steps; height++) {
            rest -= means.weightAt(height);
            if (rest < 0) {
                return height;
            }
        }
        return steps;
    }

    private int stepsInDeed() {
        return hidden.there ? hidden.steps : tower.steps();
    }

    private int dropsInDeed() {
        return hidden.there ? hidden.drops : 0;
    }

    private int dropAll(Shelf row, int i, int n) {
        int dropped = 0;
        for (int k = 0; k < n; k++) {
            // Told before the addition, which could wrap.
            if (i < 0 || i >= row.size - k || hidden.span.jars == 0 || hidden.span.isSure()) {
                return dropped;
            }
            int step = (int) row.get(i + k);
            if (!within(step, 1, hidden.steps)) {
                return dropped;
            }
            hidden.dropFrom(step);
            dropped++;
        }
        return dropped;
    }

    /** STEPS, JARS and both PRICES, with the changes that can be taken back. */
    private static final class Tower {
        static final int DROP_PRICE = 2, JAR_PRICE = 3;
        private static final int KEPT = 40;
        private static final int[] LEAST = {1, 0, 0, 0};
        private static final int[] MOST = {MOST_STEPS, MOST_JARS, 99, 99};

        private final int[] values = {20, 2, 1, 10};
        private final int[] whats = new int[KEPT];
        private final int[] before = new int[KEPT];
        private final int[] after = new int[KEPT];
        private int done;
        private int known;

        static boolean fits(int what, int v) {
            return within(what, 0, 3) && within(v, LEAST[what], MOST[what]);
        }

        int value(int what) {
            return within(what, 0, 3) ? values[what] : BAD;
        }

        int steps() {
            return values[0];
        }

        int jars() {
            return values[1];
        }

        /** Only for what fits: the value that was there. */
        int change(int what, int v) {
            if (!fits(what, v)) {
                return BAD;
            }
            int was = values[what];
            // What stays as it was is no change: nothing is noted, and what could be done again still can.
            if (v != was) {
                note(what, was, v);
                values[what] = v;
            }
            return was;
        }

        private void note(int what, int was, int v) {
            if (done == KEPT) {
                forgetOldest();
            }
            whats[done] = what;
            before[done] = was;
            after[done] = v;
            done++;
            known = done;
        }

        private void forgetOldest() {
            for (int i = 1; i < KEPT; i++) {
                whats[i - 1] = whats[i];
                before[i - 1] = before[i];
                after[i - 1] = after[i];
            }
            done = KEPT - 1;
        }

        int takeBack() {
            if (done == 0) {
                return STATE;
            }
            done--;
            values[whats[done]] = before[done];
            return done;
        }

        int doAgain() {
            if (done == known) {
                return STATE;
            }
            values[whats[done]] = after[done];
            done++;
            return known - done;
        }
    }

    /** The tape, and the law that a tape became: kept as a row of codes in the order in which they are worked out. */
    private static final class Law {
        private static final int MOST_BYTES = 120, MOST_CODES = 124, MOST_OPEN = 6, MOST_WEIGHT = 9;
        // Codes: a number stands for itself, a joining sign for itself below 0, the rest is here.
        private static final int HEIGHT = -1, STEPS = -2, JARS = -3, NEGATED = -4;
        private static final int DENIED = -'!', IF = -'?', LINE_END = -';';
        private static final int LOOSEST = 0, COMPARED = 2, TIGHTEST = 4, NO_RANK = -1;

        private final int[] tape = new int[MOST_BYTES];
        private final int[] stack = new int[MOST_CODES];
        private int[] codes = new int[MOST_CODES];
        private int[] draft = new int[MOST_CODES];
        private int length;
        private int codeCount;
        private int draftCount;
        private int place;
        private int depth;
        private int version;

        int take(int letter) {
            if (length >= MOST_BYTES) {
                return FULL;
            }
            tape[length] = letter;
            length++;
            return length;
        }

        int become() {
            boolean whole = readText();
            int answer = whole ? 1 : -100 - place;
            if (whole) {
                int[] spare = codes;
                codes = draft;
                draft = spare;
                codeCount = draftCount;
                version++;
            }
            length = 0;
            return answer;
        }

        // Each reader leaves the place at the first byte that it could not take.

        private boolean readText() {
            place = 0;
            draftCount = 0;
            if (!readLine()) {
                return false;
            }
            for (int line = 1; line < MOST_BYTES && next() == ';'; line++) {
                place++;
                if (!readLine()) {
                    return false;
                }
            }
            return place == length;
        }

        private boolean readLine() {
            if (!readJoined(LOOSEST, 0)) {
                return false;
            }
            if (next() == '?') {
                place++;
                write(IF);
                if (!readJoined(LOOSEST, 0)) {
                    return false;
                }
            }
            write(LINE_END);
            return true;
        }

        private boolean readJoined(int rank, int open) {
            if (rank > TIGHTEST) {
                return readOperand(open);
            }
            if (!readJoined(rank + 1, open)) {
                return false;
            }
            // Of comparisons only one may stand between two others.
            int most = rank == COMPARED ? 1 : MOST_BYTES;
            for (int i = 0; i < most && rankOf(next()) == rank; i++) {
                int sign = next();
                place++;
                if (!readJoined(rank + 1, open)) {
                    return false;
                }
                write(-sign);
            }
            return true;
        }

        private boolean readOperand(int open) {
            int letter = next();
            if (isDigit(letter)) {
                readNumber();
                return true;
            }
            if (letter == 'h' || letter == 'n' || letter == 'j') {
                place++;
                write(letter == 'h' ? HEIGHT : letter == 'n' ? STEPS : JARS);
                return true;
            }
            if (letter != '(' && letter != '!' && letter != '-' || open >= MOST_OPEN) {
                return false;
            }
            place++;
            return letter == '(' ? readEnclosed(open + 1) : readTurned(letter, open + 1);
        }

        private boolean readEnclosed(int open) {
            if (open > MOST_OPEN || !readJoined(LOOSEST, open) || next() != ')') {
                return false;
            }
            place++;
            return true;
        }

        private boolean readTurned(int sign, int open) {
            if (open > MOST_OPEN || !readOperand(open)) {
                return false;
            }
            write(sign == '!' ? DENIED : NEGATED);
            return true;
        }

        private void readNumber() {
            int number = 0;
            for (int digits = 0; digits < 4 && isDigit(next()); digits++) {
                number = number * 10 + next() - '0';
                place++;
            }
            write(number);
        }

        private int next() {
            return place >= 0 && place < length ? tape[place] : -1;
        }

        private static boolean isDigit(int letter) {
            return letter >= '0' && letter <= '9';
        }

        private static int rankOf(int sign) {
            switch (sign) {
                case '|':
                    return LOOSEST;
                case '&':
                    return 1;
                case '<':
                case '=':
                case '>':
                    return COMPARED;
                case '+':
                case '-':
                    return 3;
                case '*':
                case '/':
                case '%':
                    return TIGHTEST;
                default:
                    return NO_RANK;
            }
        }

        private void write(int code) {
            if (draftCount < MOST_CODES) {
                draft[draftCount] = code;
                draftCount++;
            }
        }

        int weightFor(int h, int n, int j) {
            if (codeCount == 0) {
                return 1;
            }
            return Math.max(0, Math.min(MOST_WEIGHT, valueFor(h, n, j)));
        }

        private int valueFor(int h, int n, int j) {
            depth = 0;
            boolean passed = false;
            for (int i = 0; i < codeCount; i++) {
                int code = codes[i];
                if (passed) {
                    passed = code != LINE_END;
                } else if (code == LINE_END) {
                    return pop();
                } else if (code == IF) {
                    passed = pop() == 0;
                } else if (code >= 0) {
                    push(code);
                } else if (code >= JARS) {
                    push(code == HEIGHT ? h : code == STEPS ? n : j);
                } else {
                    work(code);
                }
            }
            return 0;
        }

        private void work(int code) {
            int right = pop();
            if (code == NEGATED) {
                push(-right);
            } else if (code == DENIED) {
                push(right == 0 ? 1 : 0);
            } else {
                push(joined(-code, pop(), right));
            }
        }

        private static int joined(int sign, int a, int b) {
            switch (sign) {
                case '|':
                    return a != 0 || b != 0 ? 1 : 0;
                case '&':
                    return a != 0 && b != 0 ? 1 : 0;
                case '<':
                    return a < b ? 1 : 0;
                case '=':
                    return a == b ? 1 : 0;
                case '>':
                    return a > b ? 1 : 0;
                case '+':
                    return a + b;
                case '-':
                    return a - b;
                case '*':
                    return a * b;
                case '/':
                    return b == 0 ? 0 : a / b;
                default:
                    return b == 0 ? 0 : a % b;
            }
        }

        private void push(int v) {
            if (depth < MOST_CODES) {
                stack[depth] = v;
                depth++;
            }
        }

        private int pop() {
            if (depth == 0) {
                return 0;
            }
            depth--;
            return stack[depth];
        }
    }

    /** The heights that it still can be, and the jars that are whole. */
    private static final class Span {
        private int lo;
        private int hi;
        private int jars;

        void become(int lowest, int highest, int whole) {
            lo = lowest;
            hi = highest;
            jars = whole;
        }

        boolean isSure() {
            return lo == hi;
        }

        int heights() {
            return hi - lo + 1;
        }

        void part(int step, boolean broke) {
            if (broke) {
                hi = Math.min(hi, step - 1);
                jars--;
            } else {
                lo = Math.max(lo, step);
            }
        }
    }

    /** Plans for which only the number of heights counts: the dearest course's cost, or all courses' drops together. */
    private static final class Ladder {
        private final boolean together;
        private final int[][] costs = new int[MOST_JARS + 1][MOST_HEIGHTS + 1];
        private final int[][] firsts = new int[MOST_JARS + 1][MOST_HEIGHTS + 1];
        private int dropPrice = -1;
        private int jarPrice = -1;

        Ladder(boolean together) {
            this.together = together;
        }

        void prepare(int drop, int jar) {
            if (drop == dropPrice && jar == jarPrice) {
                return;
            }
            dropPrice = drop;
            jarPrice = jar;
            for (int j = 0; j <= MOST_JARS; j++) {
                for (int m = 1; m <= MOST_HEIGHTS; m++) {
                    fill(j, m);
                }
            }
        }

        private void fill(int j, int m) {
            int best = m == 1 ? 0 : NEVER;
            int first = 0;
            for (int k = 1; k < m; k++) {
                int cost = after(j, m, k);
                if (cost < best) {
                    best = cost;
                    first = k;
                }
            }
            costs[j][m] = best;
            firsts[j][m] = first;
        }

        /** What it costs when the first drop is k above the lowest height. */
        int after(int j, int m, int k) {
            if (!isThere(j, m) || j == 0 || k < 1 || k >= m) {
                return NEVER;
            }
            int broken = costs[j - 1][k];
            int whole = costs[j][m - k];
            if (broken >= NEVER || whole >= NEVER) {
                return NEVER;
            }
            return together ? m + broken + whole : dropPrice + Math.max(jarPrice + broken, whole);
        }

        int cost(int j, int m) {
            return isThere(j, m) ? costs[j][m] : NEVER;
        }

        int first(int j, int m) {
            return isThere(j, m) ? firsts[j][m] : 0;
        }

        private static boolean isThere(int j, int m) {
            return j >= 0 && j <= MOST_JARS && m >= 1 && m <= MOST_HEIGHTS;
        }
    }

    /** The weights, and the plans of the least mean by them. */
    private static final class Means {
        private static final int SPANS = MOST_HEIGHTS * (MOST_HEIGHTS + 1) / 2;

        private final int[] weights = new int[MOST_HEIGHTS];
        private final int[] sums = new int[MOST_HEIGHTS + 1];
        private final int[][] costs = new int[MOST_JARS + 1][SPANS];
        private final int[][] firsts = new int[MOST_JARS + 1][SPANS];
        // For each number of jars: the spans that end below this height are worked out.
        private final int[] ready = new int[MOST_JARS + 1];
        private int lawSeen = -1;
        private int stepsSeen;
        private int jarsSeen;

        void weigh(Law law, Tower tower) {
            int steps = tower.steps();
            int jars = tower.jars();
            if (law.version == lawSeen && steps == stepsSeen && jars == jarsSeen) {
                return;
            }
            lawSeen = law.version;
            stepsSeen = steps;
            jarsSeen = jars;
            for (int h = 0; h <= steps && h < MOST_HEIGHTS; h++) {
                int weight = law.weightFor(h, steps, jars);
                if (weight != weights[h]) {
                    weights[h] = weight;
                    forgetFrom(h);
                }
                sums[h + 1] = sums[h] + weight;
            }
        }

        private void forgetFrom(int h) {
            for (int j = 0; j <= MOST_JARS; j++) {
                ready[j] = Math.min(ready[j], h);
            }
        }

        int weightAt(int h) {
            return within(h, 0, MOST_STEPS) ? weights[h] : 0;
        }

        int weightTo(int h) {
            return within(h, 0, MOST_STEPS) ? sums[h + 1] : 0;
        }

        int weightOf(Span span) {
            return weightTo(span.hi) - weightTo(span.lo - 1);
        }

        int cost(Span span) {
            return makesReady(span) ? costs[span.jars][placeOf(span.lo, span.hi)] : NEVER;
        }

        int first(Span span) {
            return makesReady(span) ? firsts[span.jars][placeOf(span.lo, span.hi)] : 0;
        }

        private boolean makesReady(Span span) {
            if (span.lo < 0 || span.lo > span.hi || span.hi > MOST_STEPS || !within(span.jars, 0, MOST_JARS)) {
                return false;
            }
            for (int j = 0; j <= span.jars; j++) {
                for (int hi = ready[j]; hi <= span.hi; hi++) {
                    fillTo(j, hi);
                }
                ready[j] = Math.max(ready[j], span.hi + 1);
            }
            return true;
        }

        // Only spans with lo up to hi have a place, so that the rows stay small.
        private static int placeOf(int lo, int hi) {
            return hi * (hi + 1) / 2 + lo;
        }

        private void fillTo(int j, int hi) {
            costs[j][placeOf(hi, hi)] = 0;
            for (int lo = hi - 1; lo >= 0; lo--) {
                if (j == 0) {
                    costs[j][placeOf(lo, hi)] = NEVER;
                } else {
                    fill(costs[j - 1], costs[j], firsts[j], lo, hi);
                }
            }
        }

        private void fill(int[] fewer, int[] same, int[] first, int lo, int hi) {
            int best = NEVER;
            int at = placeOf(lo, hi);
            for (int step = lo + 1; step <= hi; step++) {
                int broken = fewer[placeOf(lo, step - 1)];
                // More heights below a step never cost less, so no higher step can be better.
                if (broken >= best) {
                    break;
                }
                int cost = broken + same[placeOf(step, hi)];
                if (cost < best) {
                    best = cost;
                    first[at] = step;
                }
            }
            same[at] = best + sums[hi + 1] - sums[lo];
        }
    }

    /** Steps trodden. Behind a drop one stands on the lowest height's step, or on the one above the highest. */
    private static final class Treads {
        private static final int HEIGHTS = MOST_TRODDEN_STEPS + 1;

        private final int[][] fromLowest = new int[MOST_JARS + 1][HEIGHTS + 1];
        private final int[][] fromAbove = new int[MOST_JARS + 1][HEIGHTS + 1];
        private boolean ready;

        void prepare() {
            if (ready) {
                return;
            }
            ready = true;
            for (int j = 0; j <= MOST_JARS; j++) {
                for (int m = 1; m <= HEIGHTS; m++) {
                    fill(j, m);
                }
            }
        }

        private void fill(int j, int m) {
            int lowest = m == 1 ? 0 : NEVER;
            int above = lowest;
            for (int k = 1; k < m; k++) {
                int rest = rest(j, m, k);
                lowest = Math.min(lowest, k + rest);
                above = Math.min(above, m - k + rest);
            }
            fromLowest[j][m] = lowest;
            fromAbove[j][m] = above;
        }

        /** What is trodden at worst behind a drop from k above the lowest height. */
        private int rest(int j, int m, int k) {
            if (!within(j, 1, MOST_JARS) || m > HEIGHTS || k < 1 || k >= m) {
                return NEVER;
            }
            return Math.min(NEVER, Math.max(fromAbove[j - 1][k], fromLowest[j][m - k]));
        }

        int costFrom(Span span, int a, int step) {
            return Math.abs(a - step) + rest(span.jars, span.heights(), step - span.lo);
        }

        /** The least step of those to drop from first; 0: there is none. */
        int firstFrom(Span span, int a) {
            int best = NEVER;
            int first = 0;
            for (int step = span.lo + 1; step <= span.hi; step++) {
                int cost = costFrom(span, a, step);
                if (cost < best) {
                    best = cost;
                    first = step;
                }
            }
            return first;
        }
    }

    /** Two towers with one lot of jars. */
    private static final class Pair {
        private static final int SIDE = MOST_TOWER_HEIGHTS + 1;

        private final int[][] needs = new int[MOST_JARS + 1][SIDE * SIDE];
        private boolean ready;

        void prepare() {
            if (ready) {
                return;
            }
            ready = true;
            for (int j = 0; j <= MOST_JARS; j++) {
                for (int m1 = 1; m1 < SIDE; m1++) {
                    // The towers are alike, so one half of the square tells the other.
                    for (int m2 = 1; m2 <= m1; m2++) {
                        fill(j, m1, m2);
                    }
                }
            }
        }

        private void fill(int j, int m1, int m2) {
            int need = m1 == 1 && m2 == 1 ? 0 : Math.min(bestIn(j, m1, m2), bestIn(j, m2, m1));
            needs[j][m1 * SIDE + m2] = need;
            needs[j][m2 * SIDE + m1] = need;
        }

        int need(int j, int m1, int m2) {
            if (!within(j, 0, MOST_JARS) || !within(m1, 1, SIDE - 1) || !within(m2, 1, SIDE - 1)) {
                return NEVER;
            }
            return needs[j][m1 * SIDE + m2];
        }

        /** The fewest drops when the first one is in the tower of m heights. */
        int bestIn(int j, int m, int other) {
            int best = NEVER;
            for (int k = 1; k < m; k++) {
                int broken = need(j - 1, k, other);
                int whole = need(j, m - k, other);
                best = Math.min(best, 1 + Math.max(broken, whole));
                // A higher step only leaves more below it.
                if (broken >= whole) {
                    break;
                }
            }
            return best;
        }
    }

    /** A rule's drops for one height. */
    private static final class Walk {
        private final int[] steps = new int[MOST_STEPS];
        private final Span span = new Span();
        private int drops;
        private int breaks;

        void begin(int highest, int jars) {
            span.become(0, highest, jars);
            drops = 0;
            breaks = 0;
        }

        void add(int step, int height) {
            if (drops >= MOST_STEPS) {
                return;
            }
            steps[drops] = step;
            drops++;
            boolean broke = height < step;
            if (broke) {
                breaks++;
            }
            span.part(step, broke);
        }

        int stepAt(int k) {
            return k >= 0 && k < drops ? steps[k] : NOT;
        }
    }

    /** What is hidden, and what is told of it. */
    private static final class Hidden {
        private final Span span = new Span();
        private boolean there;
        private int height;
        private int steps;
        private int drops;
        private int broken;
        private int right;
        private int guesses;

        void begin(int at, int ofSteps, int jars) {
            there = true;
            height = at;
            steps = ofSteps;
            drops = 0;
            broken = 0;
            span.become(0, ofSteps, jars);
        }

        boolean dropFrom(int step) {
            boolean broke = height < step;
            drops++;
            if (broke) {
                broken++;
            }
            span.part(step, broke);
            return broke;
        }

        boolean isGuessed(int at) {
            there = false;
            guesses++;
            if (at == height) {
                right++;
            }
            return at == height;
        }

        void copy(Hidden other) {
            span.become(other.span.lo, other.span.hi, other.span.jars);
            there = other.there;
            height = other.height;
            steps = other.steps;
            drops = other.drops;
            broken = other.broken;
            right = other.right;
            guesses = other.guesses;
        }
    }

    /** Bodies of kinds, their acts and the trace of the latest act. */
    private static final class Bodies {
        private static final int KINDS = 8, ACTS = 4, MOST_BODIES = 50, MOST_TRACED = 24;
        // No act goes deeper than nine bodies; the kinds stand in a tree of four levels.
        private static final int MOST_DEPTH = 24;
        private static final int DROPS = 0, BREAKS = 1, CLIMBS = 2, TELLS = 3;
        private static final int[] ABOVE = {-1, 0, 0, 2, 1, 3, 0, 6};
        // For each kind the bodies of its four acts; 0: it has none of its own.
        private static final int[] OWN = {
            1, 10, 11, 2,
            20, 0, 0, 0,
            0, 30, 0, 0,
            0, 41, 40, 0,
            0, 0, 0, 50,
            0, 0, 60, 61,
            70, 0, 0, 0,
            81, 80, 0, 0};

        private final int[] kinds = new int[MOST_BODIES];
        private final int[] traces = new int[MOST_TRACED];
        private int size;
        private int ran;
        private int number;
        private int kind;

        static boolean isKind(int k) {
            return within(k, 0, KINDS - 1);
        }

        static boolean isUnder(int kind, int k) {
            int at = kind;
            for (int level = 0; level < KINDS && isKind(at); level++) {
                if (at == k) {
                    return true;
                }
                at = ABOVE[at];
            }
            return false;
        }

        boolean has(int body) {
            return body >= 0 && body < size;
        }

        int kindOf(int body) {
            return has(body) ? kinds[body] : -1;
        }

        int add(int k) {
            if (size >= MOST_BODIES) {
                return FULL;
            }
            kinds[size] = k;
            size++;
            return size - 1;
        }

        int traced(int i) {
            return i >= 0 && i < ran && i < MOST_TRACED ? traces[i] : BAD;
        }

        int play(int body, int act, int x) {
            ran = 0;
            if (!has(body) || !within(act, 0, ACTS - 1)) {
                return 0;
            }
            number = body;
            kind = kinds[body];
            return run(kind, act, x, 0);
        }

        /** Runs the act's body of a kind, or of the next kind above that has one. */
        private int run(int from, int act, int x, int depth) {
            int at = from;
            for (int level = 0; level < KINDS && isKind(at) && OWN[at * ACTS + act] == 0; level++) {
                at = ABOVE[at];
            }
            if (!isKind(at) || depth >= MOST_DEPTH) {
                return 0;
            }
            int body = OWN[at * ACTS + act];
            note(body);
            return result(body, ABOVE[at], x, depth + 1);
        }

        private void note(int body) {
            if (ran < MOST_TRACED) {
                traces[ran] = body;
            }
            ran++;
        }

        private int result(int body, int above, int x, int depth) {
            switch (body) {
                case 1:
                    return x + number;
                case 2:
                    return run(kind, BREAKS, x, depth) - run(kind, CLIMBS, 1, depth);
                case 10:
                    return run(kind, DROPS, x, depth) * 2;
                case 11:
                    return x ^ number;
                case 20:
                    return run(above, DROPS, x, depth) + 3;
                case 30:
                    return -run(above, BREAKS, x, depth);
                case 40:
                    return run(above, CLIMBS, x, depth) * 3;
                case 41:
                    return run(above, BREAKS, x + 1, depth);
                case 50:
                    return run(above, TELLS, x, depth) ^ 5;
                case 60:
                    return run(above, CLIMBS, x, depth) - run(kind, DROPS, 2, depth);
                case 61:
                    return run(above, TELLS, x, depth) + 1;
                case 70:
                    return run(above, DROPS, x, depth) * 2;
                case 80:
                    return run(above, BREAKS, x, depth) + run(kind, CLIMBS, 2, depth);
                case 81:
                    return run(above, DROPS, x, depth) - 1;
                default:
                    return 0;
            }
        }
    }

    /** Holds nothing, a body or a row; the row's elements are kept as longs whatever their sort. */
    private static final class Shelf {
        static final int BYTES = 0, BOOLEANS = 4;
        private static final int SHORTS = 1, INTS = 2, LONGS = 3, NO_SORT = -1, NO_BODY = -1;

        private final long[] elements = new long[MOST_ELEMENTS];
        private int body = NO_BODY;
        private int sort = NO_SORT;
        private int size;

        boolean isEmpty() {
            return body == NO_BODY && sort == NO_SORT;
        }

        boolean isRow() {
            return sort != NO_SORT;
        }

        void holdBody(int number) {
            body = number;
            sort = NO_SORT;
            size = 0;
        }

        void holdRow(int ofSort, int n) {
            body = NO_BODY;
            sort = ofSort;
            size = n;
            Arrays.fill(elements, 0L);
        }

        boolean hasPlaces(int i, int n) {
            return i >= 0 && n >= 0 && i <= size - n;
        }

        long get(int i) {
            return i >= 0 && i < size ? elements[i] : 0;
        }

        void set(int i, long v) {
            if (i >= 0 && i < size) {
                elements[i] = lowest(v);
            }
        }

        private long lowest(long v) {
            switch (sort) {
                case BYTES:
                    return (byte) v;
                case SHORTS:
                    return (short) v;
                case INTS:
                    return (int) v;
                case LONGS:
                    return v;
                default:
                    return v != 0 ? 1 : 0;
            }
        }
    }
}
