import java.util.Arrays;

/**
 * Dataflow of boxes: boxes of kinds, wires between them with tokens in a row, and what can be asked of them.
 * The words in capitals of the document are the names here; ../shared/DOC.md says what each call answers.
 */
public final class BoxFlow {
    public static final int NONE = -1, BAD = -2, STATE = -3, FULL = -4;
    public static final long NO = Long.MIN_VALUE;

    /** It is UNEVEN, or there is nothing such. */
    private static final int NOT = -5;
    private static final int NOTHING = -11, CAST = -12, PLACE = -13, SIZE = -14;
    /** What ends() answers for NONE, since the tokens together may well be -1. */
    private static final int NO_END = -10001;
    private static final int FAULT_BASE = -10;
    private static final int ROW_ENDS = 100;

    private static final int MOST_BOXES = 6, MOST_WIRES = 8, MOST_TOKENS = 99;
    private static final int MOST_NUMBER = 9, MOST_RATE = 4, MOST_FIRED = 9999;
    private static final int ADDS = 0, MULS = 1, LAST = 2, MOST = 3, COUNTS = 4;
    private static final int MOST_TIMES = 60, MOST_FIRINGS = MOST_BOXES * MOST_TIMES, LEAST_FIRINGS = 8;
    private static final int MOST_PERIODS = 9, SEEN_PERIODS = 4;
    private static final int NEED_TOKENS = 20, ODDS_TOKENS = 9;
    private static final int MOST_SEEN = 5, MOST_PLAN = 10, MOST_BOOK = 8;
    private static final int PLAN_FIRES = 0, PLAN_EMPTIES = 1, PLAN_ZEROES = 2, PLAN_PERIOD = 3;
    private static final int MOST_TEXT = 100, MOST_SIGN = 127;
    private static final int MOST_CLAUSES = 8, CLAUSE_TOKENS = 6, TOKEN_DIGITS = 3;
    private static final int TAPES = 6, MOST_ITEMS = 60, EMPTY = -1;
    private static final int BYTES = 0, SHORTS = 1, INTS = 2, BOOLEANS = 4;
    /** Far more steps than the greatest divisor of any two longs takes. */
    private static final int DIVISOR_STEPS = 200;

    private final Sheet now;
    private final Sheet kept;
    private boolean isKept;
    /** What would be is played here, so that what is asked changes nothing. */
    private final Net trial;
    private final Schedule schedule;
    private final Orders orders;
    private final Text text;
    private final Tape[] tapes;

    public BoxFlow() {
        now = new Sheet();
        kept = new Sheet();
        isKept = false;
        trial = new Net();
        schedule = new Schedule();
        orders = new Orders();
        text = new Text();
        tapes = new Tape[TAPES];
        for (int t = 0; t < TAPES; t++) {
            tapes[t] = new Tape();
        }
    }

    // ---- boxes, wires

    public int box(int kind, int v) {
        if (kind < ADDS || kind > COUNTS) {
            return NONE;
        }
        if (v < 0 || v > MOST_NUMBER) {
            return BAD;
        }
        return now.net.addBox(kind, v);
    }

    public int wire(int from, int to, int puts, int takes) {
        return now.net.addWire(from, to, puts, takes);
    }

    public int token(int wire, int x) {
        if (!now.net.hasWire(wire)) {
            return NONE;
        }
        Wire w = now.net.wires[wire];
        if (w.size >= MOST_TOKENS) {
            return FULL;
        }
        w.append(x);
        return w.size;
    }

    public int cut(int wire) {
        if (!now.net.hasWire(wire)) {
            return NONE;
        }
        Wire w = now.net.wires[wire];
        int had = w.size;
        w.clear();
        w.there = false;
        return had;
    }

    public int feed(int sign) {
        if (sign < 0 || sign > MOST_SIGN) {
            return BAD;
        }
        if (text.length >= MOST_TEXT) {
            return FULL;
        }
        text.append((byte) sign);
        return text.length;
    }

    public int graph() {
        int fault = text.findFault();
        text.length = 0;
        if (fault >= 0) {
            return FAULT_BASE - fault;
        }
        int came = 0;
        for (int c = 0; c < text.clauseCount && c < MOST_CLAUSES; c++) {
            if (layClause(text.clauses[c])) {
                came++;
            }
        }
        return came;
    }

    private boolean layClause(Clause clause) {
        int number = now.net.addWire(clause.from, clause.to, clause.puts, clause.takes);
        if (!now.net.hasWire(number)) {
            return false;
        }
        for (int k = 0; k < clause.size && k < CLAUSE_TOKENS; k++) {
            now.net.wires[number].append(clause.tokens[k]);
        }
        return true;
    }

    public int of(int box, int what) {
        if (!now.net.hasBox(box)) {
            return NONE;
        }
        switch (what) {
            case 0: return now.net.boxes[box].kind;
            case 1: return now.net.boxes[box].v;
            case 2: return now.net.boxes[box].fired;
            case 3: return timesOf(box);
            case 4: return schedule.canFire(now.net, box) ? 1 : 0;
            case 5: return now.net.feedback(box);
            case 6: return now.net.wiresTo(box);
            case 7: return now.net.wiresFrom(box);
            default: return NONE;
        }
    }

    private int timesOf(int box) {
        schedule.look(now.net);
        return schedule.uneven ? NOT : schedule.times[box];
    }

    public int about(int wire, int what) {
        if (!now.net.hasWire(wire)) {
            return NONE;
        }
        Wire w = now.net.wires[wire];
        switch (what) {
            case 0: return w.from;
            case 1: return w.to;
            case 2: return w.puts;
            case 3: return w.takes;
            case 4: return w.size;
            case 5: return heldBy(wire);
            case 6: return needOf(wire);
            default: return NONE;
        }
    }

    private int heldBy(int wire) {
        schedule.look(now.net);
        return schedule.uneven ? NOT : schedule.held[wire];
    }

    private int needOf(int wire) {
        for (int tokens = 0; tokens <= NEED_TOKENS; tokens++) {
            schedule.lookWith(now.net, wire, tokens);
            if (schedule.goes()) {
                return tokens;
            }
        }
        return NOT;
    }

    public long read(int wire, int k) {
        return tokenIn(now.net, wire, k);
    }

    private static long tokenIn(Net net, int wire, int k) {
        if (!net.hasWire(wire)) {
            return NO;
        }
        Wire w = net.wires[wire];
        return w.holds(k) ? w.tokenAt(k) : NO;
    }

    // ---- firing

    public long fire(int box) {
        if (!now.net.hasBox(box) || !schedule.canFire(now.net, box)) {
            return NO;
        }
        return now.net.fireBox(box);
    }

    public int period(int n) {
        if (n < 0 || n > MOST_PERIODS) {
            return BAD;
        }
        schedule.look(now.net);
        if (schedule.uneven) {
            return STATE;
        }
        return playPeriods(now.net, n);
    }

    /**
     * How many of n periods went by what the schedule has looked at last. All counts return in a period and
     * nothing but the counts decides who can fire, so each goes as the first one does, or none goes.
     */
    private int playPeriods(Net net, int n) {
        if (!schedule.goes()) {
            return 0;
        }
        for (int gone = 0; gone < n; gone++) {
            schedule.play(net);
        }
        return n;
    }

    public int told(int what) {
        if (what < 0 || what > 5) {
            return NONE;
        }
        if (what == 5) {
            return now.net.tokenCount();
        }
        schedule.look(now.net);
        if (what == 0) {
            return schedule.uneven ? 1 : 0;
        }
        if (schedule.uneven) {
            return NOT;
        }
        switch (what) {
            case 1: return schedule.total;
            case 2: return schedule.stands ? 1 : 0;
            case 3: return schedule.hold();
            default: return leastHold();
        }
    }

    private int leastHold() {
        if (schedule.total > LEAST_FIRINGS) {
            return NOT;
        }
        return orders.least(now.net, schedule);
    }

    public int when(int k) {
        if (k < 0) {
            return NONE;
        }
        schedule.look(now.net);
        return k < schedule.firings ? schedule.order[k] : NOT;
    }

    // ---- what will be

    public int on(int n, int wire) {
        if (!now.net.hasWire(wire)) {
            return NONE;
        }
        if (n < 0 || n > MOST_PERIODS) {
            return BAD;
        }
        // All counts return in a period, and one that stands isn't gone: there are as many as now.
        return now.net.wires[wire].size;
    }

    public long then(int n, int wire, int k) {
        if (n < 0 || n > MOST_PERIODS || !now.net.hasWire(wire)) {
            return NO;
        }
        trial.copyFrom(now.net);
        schedule.look(trial);
        playPeriods(trial, n);
        return tokenIn(trial, wire, k);
    }

    public int see(int wire, int n, int x) {
        if (wire == -1) {
            return now.seen.clear();
        }
        if (!now.net.hasWire(wire)) {
            return NONE;
        }
        if (n < 0 || n > SEEN_PERIODS) {
            return BAD;
        }
        return now.seen.append(wire, n, x);
    }

    public int fits(int box, int what) {
        if (!now.net.hasBox(box) || what < 0 || what > 1) {
            return NONE;
        }
        schedule.look(now.net);
        int fitting = 0;
        int least = NOT;
        for (int v = 0; v <= MOST_NUMBER; v++) {
            if (allSeenWith(box, v)) {
                least = fitting == 0 ? v : least;
                fitting++;
            }
        }
        return what == 0 ? fitting : least;
    }

    /** Whether all that was seen is so, were v the box's number; the schedule has looked already. */
    private boolean allSeenWith(int box, int v) {
        int farthest = farthestSeen();
        if (farthest > 0 && !schedule.goes()) {
            return false;
        }
        trial.copyFrom(now.net);
        trial.boxes[box].v = v;
        for (int n = 0; n <= farthest && n <= SEEN_PERIODS; n++) {
            if (n > 0) {
                schedule.play(trial);
            }
            if (!seenAfter(n)) {
                return false;
            }
        }
        return true;
    }

    private int farthestSeen() {
        int farthest = 0;
        for (int r = 0; r < now.seen.size; r++) {
            farthest = Math.max(farthest, now.seen.second[r]);
        }
        return farthest;
    }

    /** Whether the trial, n periods on, is as those rows tell that were seen then. */
    private boolean seenAfter(int n) {
        Rows seen = now.seen;
        for (int r = 0; r < seen.size; r++) {
            if (seen.second[r] == n && !latestIs(seen.first[r], seen.third[r])) {
                return false;
            }
        }
        return true;
    }

    private boolean latestIs(int wire, int x) {
        if (!trial.hasWire(wire)) {
            return false;
        }
        Wire w = trial.wires[wire];
        return w.size > 0 && w.tokenAt(w.size - 1) == x;
    }

    public long odds(int wire, int part) {
        if (!now.net.hasWire(wire) || part < 0 || part > 1) {
            return NO;
        }
        int going = 0;
        for (int tokens = 0; tokens <= ODDS_TOKENS; tokens++) {
            schedule.lookWith(now.net, wire, tokens);
            if (schedule.goes()) {
                going++;
            }
        }
        return lowestTerms(going, ODDS_TOKENS + 1, part);
    }

    public long mean(int part) {
        int tokens = now.net.tokenCount();
        if (part < 0 || part > 1 || tokens == 0) {
            return NO;
        }
        return lowestTerms(now.net.valuesTogether(), tokens, part);
    }

    /** The fraction's part 0 above, or 1 below the line; below is above 0. */
    private static long lowestTerms(long above, long below, int part) {
        long divisor = greatestDivisor(Math.abs(above), below);
        if (divisor <= 0) {
            return NO;
        }
        return part == 0 ? above / divisor : below / divisor;
    }

    private static long greatestDivisor(long a, long b) {
        long greater = a;
        long rest = b;
        for (int step = 0; step < DIVISOR_STEPS && rest != 0; step++) {
            long next = greater % rest;
            greater = rest;
            rest = next;
        }
        return greater;
    }

    // ---- plans, books

    public int plan(int what, int n) {
        if (what == -1) {
            return now.plan.clear();
        }
        switch (what) {
            case PLAN_FIRES:
            case PLAN_ZEROES:
                return now.net.hasBox(n) ? now.plan.append(what, n, 0) : NONE;
            case PLAN_EMPTIES:
                return now.net.hasWire(n) ? now.plan.append(what, n, 0) : NONE;
            case PLAN_PERIOD:
                return now.plan.append(what, 0, 0);
            default:
                return NONE;
        }
    }

    public int ends(int what) {
        if (what < 0 || what > 1) {
            return NO_END;
        }
        trial.copyFrom(now.net);
        for (int r = 0; r < now.plan.size; r++) {
            playRow(now.plan.first[r], now.plan.second[r]);
        }
        return what == 0 ? trial.tokenCount() : (int) trial.valuesTogether();
    }

    private void playRow(int what, int n) {
        if (what == PLAN_PERIOD) {
            schedule.look(trial);
            playPeriods(trial, 1);
        } else if (what == PLAN_EMPTIES) {
            if (trial.hasWire(n)) {
                trial.wires[n].clear();
            }
        } else if (trial.hasBox(n)) {
            playBoxRow(what, n);
        }
    }

    private void playBoxRow(int what, int box) {
        if (what == PLAN_ZEROES) {
            trial.boxes[box].v = 0;
        } else if (schedule.canFire(trial, box)) {
            trial.fireBox(box);
        }
    }

    public int book(int wire, int n) {
        if (wire == -1) {
            return now.book.clear();
        }
        if (!now.net.hasWire(wire)) {
            return NONE;
        }
        if (n < 0 || n > MOST_TOKENS) {
            return BAD;
        }
        return now.book.append(wire, n, 0);
    }

    public int looked() {
        Rows book = now.book;
        for (int r = 0; r < book.size; r++) {
            int wire = book.first[r];
            if (!now.net.hasWire(wire) || now.net.wires[wire].size != book.second[r]) {
                return r;
            }
        }
        return NOT;
    }

    // ---- judging, the image, tapes

    public int judge(int wire, int tape, int i) {
        if (!now.net.hasWire(wire) || !isTape(tape)) {
            return NONE;
        }
        Tape row = tapes[tape];
        if (row.sort != EMPTY && row.sort != INTS) {
            return CAST;
        }
        Wire w = now.net.wires[wire];
        for (int k = 0; k < w.size; k++) {
            // Told from i on: a place below 0 ends the row at once, and i + k must not wrap.
            if (i < 0 || i >= row.length - k) {
                return ROW_ENDS + k;
            }
            if (row.itemAt(i + k) != w.tokenAt(k)) {
                return k;
            }
        }
        return NOT;
    }

    public int image() {
        kept.copyFrom(now);
        isKept = true;
        return now.net.boxCount;
    }

    public int undo() {
        if (!isKept) {
            return STATE;
        }
        now.copyFrom(kept);
        return now.net.boxCount;
    }

    public int count(int what) {
        switch (what) {
            case 0: return now.net.boxCount;
            case 1: return now.net.wiresCame;
            case 2: return now.net.wiresThere();
            case 3: return now.seen.size;
            case 4: return now.plan.size;
            case 5: return now.book.size;
            case 6: return text.length;
            default: return BAD;
        }
    }

    public int tape(int tape, int sort, int n) {
        if (!isTape(tape)) {
            return NONE;
        }
        if (sort == EMPTY) {
            tapes[tape].become(EMPTY, 0);
            return 1;
        }
        if (sort < BYTES || sort > BOOLEANS || n > MOST_ITEMS) {
            return BAD;
        }
        if (n < 0) {
            return SIZE;
        }
        tapes[tape].become(sort, n);
        return 1;
    }

    private static boolean isTape(int tape) {
        return tape >= 0 && tape < TAPES;
    }

    public int item(int tape, int i, long v) {
        if (!isTape(tape)) {
            return NONE;
        }
        if (tapes[tape].sort == EMPTY) {
            return NOTHING;
        }
        if (!tapes[tape].holds(i)) {
            return PLACE;
        }
        tapes[tape].put(i, v);
        return 1;
    }

    public long peek(int tape, int i) {
        if (!isTape(tape) || !tapes[tape].holds(i)) {
            return NO;
        }
        return tapes[tape].itemAt(i);
    }

    public int shift(int tape, int i, int other, int j, int n) {
        if (!isTape(tape) || !isTape(other)) {
            return NONE;
        }
        Tape source = tapes[tape];
        Tape target = tapes[other];
        if (source.sort == EMPTY || target.sort == EMPTY) {
            return NOTHING;
        }
        if (source.sort != target.sort) {
            return CAST;
        }
        if (!source.holdsRun(i, n) || !target.holdsRun(j, n)) {
            return PLACE;
        }
        System.arraycopy(source.items, i, target.items, j, n);
        return n;
    }

    // ---- the classes inside

    private static final class Box {
        int kind;
        int v;
        int fired;

        Box() {
            become(ADDS, 0);
        }

        void become(int newKind, int number) {
            kind = newKind;
            v = number;
            fired = 0;
        }

        void copyFrom(Box other) {
            kind = other.kind;
            v = other.v;
            fired = other.fired;
        }

        /** What is made if nothing is taken. */
        int madeOfNothing() {
            return kind == COUNTS ? fired * v : v;
        }

        /** What is made of all that was taken ahead of x, and x. */
        int madeWith(int made, int x) {
            switch (kind) {
                case MULS: return made * x;
                case LAST: return x;
                case MOST: return Math.max(made, x);
                default: return made + x;
            }
        }

        /** The token that comes as number j on a wire. */
        int tokenOf(int made, int j) {
            switch (kind) {
                case ADDS: return made + j;
                case LAST: return made - j;
                case MOST: return j % 2 == 0 ? made : v;
                case COUNTS: return made * (j + 1);
                default: return made;
            }
        }

        void noteFiring() {
            fired = Math.min(fired + 1, MOST_FIRED);
        }
    }

    private static final class Wire {
        int from;
        int to;
        int puts;
        int takes;
        /** Not before it came, and no more once it is cut. */
        boolean there;
        int size;
        /** Tokens go round in their row, from this place on. */
        private int start;
        private final int[] tokens;

        Wire() {
            tokens = new int[MOST_TOKENS];
            there = false;
            clear();
        }

        void become(int fromBox, int toBox, int putRate, int takeRate) {
            from = fromBox;
            to = toBox;
            puts = putRate;
            takes = takeRate;
            there = true;
            clear();
        }

        void copyFrom(Wire other) {
            from = other.from;
            to = other.to;
            puts = other.puts;
            takes = other.takes;
            there = other.there;
            size = other.size;
            start = other.start;
            if (size > 0) {
                System.arraycopy(other.tokens, 0, tokens, 0, MOST_TOKENS);
            }
        }

        void clear() {
            size = 0;
            start = 0;
        }

        boolean goesTo(int box) {
            return there && to == box;
        }

        boolean comesFrom(int box) {
            return there && from == box;
        }

        /** By how many its tokens change when a box fires. */
        int changeBy(int box) {
            return (comesFrom(box) ? puts : 0) - (goesTo(box) ? takes : 0);
        }

        boolean holds(int k) {
            return k >= 0 && k < size;
        }

        int tokenAt(int k) {
            return holds(k) ? tokens[placeOf(k)] : 0;
        }

        void append(int x) {
            if (size < MOST_TOKENS) {
                tokens[placeOf(size)] = x;
                size++;
            }
        }

        int takeEarliest() {
            if (size == 0) {
                return 0;
            }
            int x = tokens[start];
            start = placeOf(1);
            size--;
            return x;
        }

        /** k is 0 .. 98, and start too. */
        private int placeOf(int k) {
            int place = start + k;
            return place < MOST_TOKENS ? place : place - MOST_TOKENS;
        }
    }

    /** The boxes and the wires with all that is theirs. */
    private static final class Net {
        final Box[] boxes;
        final Wire[] wires;
        int boxCount;
        int wiresCame;

        Net() {
            boxes = new Box[MOST_BOXES];
            for (int b = 0; b < MOST_BOXES; b++) {
                boxes[b] = new Box();
            }
            wires = new Wire[MOST_WIRES];
            for (int w = 0; w < MOST_WIRES; w++) {
                wires[w] = new Wire();
            }
            boxCount = 0;
            wiresCame = 0;
        }

        void copyFrom(Net other) {
            for (int b = 0; b < MOST_BOXES; b++) {
                boxes[b].copyFrom(other.boxes[b]);
            }
            for (int w = 0; w < MOST_WIRES; w++) {
                wires[w].copyFrom(other.wires[w]);
            }
            boxCount = other.boxCount;
            wiresCame = other.wiresCame;
        }

        boolean hasBox(int b) {
            return b >= 0 && b < boxCount && b < MOST_BOXES;
        }

        boolean hasWire(int w) {
            return w >= 0 && w < MOST_WIRES && wires[w].there;
        }

        int addBox(int kind, int v) {
            if (boxCount >= MOST_BOXES) {
                return FULL;
            }
            boxes[boxCount].become(kind, v);
            boxCount++;
            return boxCount - 1;
        }

        int addWire(int from, int to, int puts, int takes) {
            if (!hasBox(from) || !hasBox(to)) {
                return NONE;
            }
            if (puts < 1 || puts > MOST_RATE || takes < 1 || takes > MOST_RATE) {
                return BAD;
            }
            if (wiresCame >= MOST_WIRES) {
                return FULL;
            }
            wires[wiresCame].become(from, to, puts, takes);
            wiresCame++;
            return wiresCame - 1;
        }

        /** The box fires, which it can: what is made. */
        int fireBox(int b) {
            if (!hasBox(b)) {
                return 0;
            }
            Box box = boxes[b];
            int made = takeAll(b, box);
            for (int w = 0; w < MOST_WIRES; w++) {
                if (wires[w].comesFrom(b)) {
                    putOn(wires[w], box, made);
                }
            }
            box.noteFiring();
            return made;
        }

        private int takeAll(int b, Box box) {
            int made = box.madeOfNothing();
            for (int w = 0; w < MOST_WIRES; w++) {
                Wire wire = wires[w];
                int taken = wire.goesTo(b) ? wire.takes : 0;
                for (int k = 0; k < taken; k++) {
                    made = box.madeWith(made, wire.takeEarliest());
                }
            }
            return made;
        }

        private static void putOn(Wire wire, Box box, int made) {
            for (int j = 0; j < wire.puts; j++) {
                wire.append(box.tokenOf(made, j));
            }
        }

        int wiresTo(int b) {
            int bits = 0;
            for (int w = 0; w < MOST_WIRES; w++) {
                bits |= wires[w].goesTo(b) ? 1 << w : 0;
            }
            return bits;
        }

        int wiresFrom(int b) {
            int bits = 0;
            for (int w = 0; w < MOST_WIRES; w++) {
                bits |= wires[w].comesFrom(b) ? 1 << w : 0;
            }
            return bits;
        }

        int wiresThere() {
            int there = 0;
            for (int w = 0; w < MOST_WIRES; w++) {
                there += wires[w].there ? 1 : 0;
            }
            return there;
        }

        /** Boxes, as bits, that one comes to from b and that one comes back from. */
        int feedback(int b) {
            int reached = reachedFrom(b);
            int bits = 0;
            for (int other = 0; other < MOST_BOXES; other++) {
                boolean back = (reached >> other & 1) == 1 && (reachedFrom(other) >> b & 1) == 1;
                bits |= back ? 1 << other : 0;
            }
            return bits;
        }

        /** Boxes, as bits, to which one comes from b by one wire or more. */
        private int reachedFrom(int b) {
            int reached = onwardFrom(1 << b);
            for (int round = 1; round < MOST_BOXES; round++) {
                reached |= onwardFrom(reached);
            }
            return reached;
        }

        private int onwardFrom(int bits) {
            int onward = 0;
            for (int w = 0; w < MOST_WIRES; w++) {
                Wire wire = wires[w];
                if (wire.there && (bits >> wire.from & 1) == 1) {
                    onward |= 1 << wire.to;
                }
            }
            return onward;
        }

        int tokenCount() {
            int tokens = 0;
            for (int w = 0; w < MOST_WIRES; w++) {
                tokens += wires[w].there ? wires[w].size : 0;
            }
            return tokens;
        }

        /** The values of all tokens together; at most 792 ints, so a long holds them exactly. */
        long valuesTogether() {
            long together = 0;
            for (int w = 0; w < MOST_WIRES; w++) {
                Wire wire = wires[w];
                int tokens = wire.there ? wire.size : 0;
                for (int k = 0; k < tokens; k++) {
                    together += wire.tokenAt(k);
                }
            }
            return together;
        }
    }

    /** How many tokens each wire of a net has; nothing else decides which boxes can fire. */
    private static final class Counts {
        final int[] tokens;

        Counts() {
            tokens = new int[MOST_WIRES];
        }

        void load(Net net) {
            for (int w = 0; w < MOST_WIRES; w++) {
                tokens[w] = net.wires[w].size;
            }
        }

        boolean canFire(Net net, int box) {
            for (int w = 0; w < MOST_WIRES; w++) {
                Wire wire = net.wires[w];
                if (wire.goesTo(box) && tokens[w] < wire.takes) {
                    return false;
                }
                if (wire.comesFrom(box) && tokens[w] + wire.changeBy(box) > MOST_TOKENS) {
                    return false;
                }
            }
            return true;
        }

        void fireBox(Net net, int box) {
            for (int w = 0; w < MOST_WIRES; w++) {
                tokens[w] += net.wires[w].changeBy(box);
            }
        }

        void takeBack(Net net, int box) {
            for (int w = 0; w < MOST_WIRES; w++) {
                tokens[w] -= net.wires[w].changeBy(box);
            }
        }
    }

    /** TIMES of the boxes, and the period that would go from now, by the counts alone. */
    private static final class Schedule {
        boolean uneven;
        boolean stands;
        /** TIMES of all, together. */
        int total;
        final int[] times;
        /** Which boxes fire, one behind the other, and how many do (till it stands, if it does). */
        final int[] order;
        int firings;
        final int[] held;
        /** Boxes that wires hold together bear the same number here. */
        private final int[] lot;
        private final int[] left;
        private final Counts counts;

        Schedule() {
            times = new int[MOST_BOXES];
            order = new int[MOST_FIRINGS];
            held = new int[MOST_WIRES];
            lot = new int[MOST_BOXES];
            left = new int[MOST_BOXES];
            counts = new Counts();
        }

        boolean canFire(Net net, int box) {
            counts.load(net);
            return counts.canFire(net, box);
        }

        boolean goes() {
            return !uneven && !stands;
        }

        void look(Net net) {
            counts.load(net);
            findPeriod(net);
        }

        /** Looks at the net as if a wire had so many tokens. */
        void lookWith(Net net, int wire, int tokens) {
            counts.load(net);
            if (net.hasWire(wire)) {
                counts.tokens[wire] = tokens;
            }
            findPeriod(net);
        }

        private void findPeriod(Net net) {
            firings = 0;
            stands = false;
            uneven = !findTimes(net);
            if (uneven) {
                return;
            }
            System.arraycopy(times, 0, left, 0, MOST_BOXES);
            System.arraycopy(counts.tokens, 0, held, 0, MOST_WIRES);
            for (int k = 0; k < total && k < MOST_FIRINGS && !stands; k++) {
                int box = firstReady(net);
                if (box == NONE) {
                    stands = true;
                } else {
                    followFiring(net, box);
                }
            }
        }

        private int firstReady(Net net) {
            for (int b = 0; b < MOST_BOXES; b++) {
                if (left[b] > 0 && counts.canFire(net, b)) {
                    return b;
                }
            }
            return NONE;
        }

        private void followFiring(Net net, int box) {
            left[box]--;
            counts.fireBox(net, box);
            order[firings] = box;
            firings++;
            for (int w = 0; w < MOST_WIRES; w++) {
                held[w] = Math.max(held[w], counts.tokens[w]);
            }
        }

        /** The period found last goes in a net whose counts are those that were looked at. */
        void play(Net net) {
            for (int k = 0; k < firings; k++) {
                net.fireBox(order[k]);
            }
        }

        int hold() {
            int together = 0;
            for (int w = 0; w < MOST_WIRES; w++) {
                together += held[w];
            }
            return together;
        }

        /** Whether there are TIMES: each box begins as a lot by itself, and each wire joins two lots. */
        private boolean findTimes(Net net) {
            for (int b = 0; b < MOST_BOXES; b++) {
                times[b] = net.hasBox(b) ? 1 : 0;
                lot[b] = b;
            }
            for (int w = 0; w < MOST_WIRES; w++) {
                if (net.wires[w].there && !joinLots(net.wires[w])) {
                    return false;
                }
            }
            total = 0;
            for (int b = 0; b < MOST_BOXES; b++) {
                if (times[b] > MOST_TIMES) {
                    return false;
                }
                total += times[b];
            }
            return true;
        }

        /**
         * Both lots grow by factors without a common divisor, so the numbers in the joined lot have none
         * either: they stay the least. Whether the wire can be met at all.
         */
        private boolean joinLots(Wire wire) {
            int put = times[wire.from] * wire.puts;
            int taken = times[wire.to] * wire.takes;
            int fromLot = lot[wire.from];
            int toLot = lot[wire.to];
            if (fromLot == toLot) {
                return put == taken;
            }
            int divisor = (int) greatestDivisor(put, taken);
            if (divisor <= 0) {
                return false;
            }
            growLot(fromLot, taken / divisor, fromLot);
            growLot(toLot, put / divisor, fromLot);
            return true;
        }

        private void growLot(int oldLot, int factor, int newLot) {
            for (int b = 0; b < MOST_BOXES; b++) {
                if (lot[b] == oldLot) {
                    times[b] *= factor;
                    lot[b] = newLot;
                }
            }
        }
    }

    /** Looks through all orders of at most 8 firings for LEAST. */
    private static final class Orders {
        private final Counts counts;
        private final int[] left;
        /** Row d: the most tokens that each wire had till d firings were made. */
        private final int[][] most;
        private int total;
        private int best;

        Orders() {
            counts = new Counts();
            left = new int[MOST_BOXES];
            most = new int[LEAST_FIRINGS + 1][MOST_WIRES];
        }

        int least(Net net, Schedule schedule) {
            counts.load(net);
            System.arraycopy(schedule.times, 0, left, 0, MOST_BOXES);
            total = schedule.total;
            best = Integer.MAX_VALUE;
            int hold = 0;
            for (int w = 0; w < MOST_WIRES; w++) {
                most[0][w] = counts.tokens[w];
                hold += counts.tokens[w];
            }
            followAll(net, 0, hold);
            return best == Integer.MAX_VALUE ? NOT : best;
        }

        /** HOLD only grows, so an order that isn't below the best one already isn't followed. */
        private void followAll(Net net, int made, int hold) {
            if (made >= total) {
                best = hold;
                return;
            }
            if (made >= LEAST_FIRINGS) {
                return;
            }
            for (int b = 0; b < MOST_BOXES; b++) {
                if (left[b] > 0 && counts.canFire(net, b)) {
                    left[b]--;
                    counts.fireBox(net, b);
                    int grown = raiseMost(made);
                    if (grown < best) {
                        followAll(net, made + 1, grown);
                    }
                    counts.takeBack(net, b);
                    left[b]++;
                }
            }
        }

        /** HOLD behind one firing more than made. */
        private int raiseMost(int made) {
            int together = 0;
            for (int w = 0; w < MOST_WIRES; w++) {
                int raised = Math.max(most[made][w], counts.tokens[w]);
                most[made + 1][w] = raised;
                together += raised;
            }
            return together;
        }
    }

    private static final class Clause {
        int from;
        int puts;
        int to;
        int takes;
        int size;
        final int[] tokens;

        Clause() {
            tokens = new int[CLAUSE_TOKENS];
        }
    }

    /** THE TEXT, and the clauses read from it. */
    private static final class Text {
        int length;
        int clauseCount;
        final Clause[] clauses;
        private final byte[] signs;
        private int at;

        Text() {
            length = 0;
            signs = new byte[MOST_TEXT];
            clauses = new Clause[MOST_CLAUSES];
            for (int c = 0; c < MOST_CLAUSES; c++) {
                clauses[c] = new Clause();
            }
        }

        void append(byte sign) {
            if (length < MOST_TEXT) {
                signs[length] = sign;
                length++;
            }
        }

        /** Reads the clauses: NONE if it is a graph, else the fault, where the reading stays. */
        int findFault() {
            at = 0;
            clauseCount = 0;
            for (int c = 0; c < MOST_CLAUSES; c++) {
                if (!readClause(clauses[c])) {
                    return at;
                }
                clauseCount++;
                if (at >= length) {
                    return NONE;
                }
                if (clauseCount >= MOST_CLAUSES || !skip(';')) {
                    return at;
                }
            }
            return at;
        }

        private boolean readClause(Clause clause) {
            clause.size = 0;
            clause.from = readDigit(0, 9);
            if (clause.from == NONE || !skip(':')) {
                return false;
            }
            clause.puts = readDigit(1, MOST_RATE);
            if (clause.puts == NONE || !skip('>')) {
                return false;
            }
            clause.to = readDigit(0, 9);
            if (clause.to == NONE || !skip(':')) {
                return false;
            }
            clause.takes = readDigit(1, MOST_RATE);
            if (clause.takes == NONE) {
                return false;
            }
            return !skip('+') || readTokens(clause);
        }

        private boolean readTokens(Clause clause) {
            for (int k = 0; k < CLAUSE_TOKENS; k++) {
                int token = readNumber();
                if (token == NONE) {
                    return false;
                }
                clause.tokens[k] = token;
                clause.size = k + 1;
                if (clause.size >= CLAUSE_TOKENS || !skip(',')) {
                    return true;
                }
            }
            return true;
        }

        private int readNumber() {
            int number = readDigit(0, 9);
            for (int d = 1; d < TOKEN_DIGITS && number != NONE; d++) {
                int digit = readDigit(0, 9);
                if (digit == NONE) {
                    return number;
                }
                number = number * 10 + digit;
            }
            return number;
        }

        /** The digit that stands here; NONE, and the reading stays, if it is none from least to greatest. */
        private int readDigit(int least, int greatest) {
            if (at >= length || at >= MOST_TEXT) {
                return NONE;
            }
            int digit = signs[at] - '0';
            if (digit < least || digit > greatest) {
                return NONE;
            }
            at++;
            return digit;
        }

        private boolean skip(char sign) {
            if (at >= length || at >= MOST_TEXT || signs[at] != sign) {
                return false;
            }
            at++;
            return true;
        }
    }

    /** Rows of up to three numbers each, told by hand. */
    private static final class Rows {
        int size;
        final int[] first;
        final int[] second;
        final int[] third;

        Rows(int most) {
            int room = Math.max(most, 0);
            first = new int[room];
            second = new int[room];
            third = new int[room];
            size = 0;
        }

        int clear() {
            size = 0;
            return 0;
        }

        int append(int a, int b, int c) {
            if (size >= first.length) {
                return FULL;
            }
            first[size] = a;
            second[size] = b;
            third[size] = c;
            size++;
            return size;
        }

        void copyFrom(Rows other) {
            clear();
            for (int r = 0; r < other.size; r++) {
                append(other.first[r], other.second[r], other.third[r]);
            }
        }
    }

    /** All that an image holds. */
    private static final class Sheet {
        final Net net;
        final Rows seen;
        final Rows plan;
        final Rows book;

        Sheet() {
            net = new Net();
            seen = new Rows(MOST_SEEN);
            plan = new Rows(MOST_PLAN);
            book = new Rows(MOST_BOOK);
        }

        void copyFrom(Sheet other) {
            net.copyFrom(other.net);
            seen.copyFrom(other.seen);
            plan.copyFrom(other.plan);
            book.copyFrom(other.book);
        }
    }

    private static final class Tape {
        /** EMPTY: it holds nothing. */
        int sort;
        int length;
        final long[] items;

        Tape() {
            items = new long[MOST_ITEMS];
            sort = EMPTY;
            length = 0;
        }

        void become(int newSort, int n) {
            sort = newSort;
            length = Math.max(0, Math.min(n, MOST_ITEMS));
            Arrays.fill(items, 0);
        }

        boolean holds(int i) {
            return i >= 0 && i < length;
        }

        /** Whether n items from i on are there; written so that no sum can wrap. */
        boolean holdsRun(int i, int n) {
            return n >= 0 && i >= 0 && n <= length && i <= length - n;
        }

        long itemAt(int i) {
            return holds(i) ? items[i] : 0;
        }

        void put(int i, long v) {
            if (holds(i)) {
                items[i] = asItem(v);
            }
        }

        private long asItem(long v) {
            switch (sort) {
                case BYTES: return (byte) v;
                case SHORTS: return (short) v;
                case INTS: return (int) v;
                case BOOLEANS: return v != 0 ? 1 : 0;
                default: return v;
            }
        }
    }
}
