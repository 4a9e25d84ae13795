/** Edges of promises 11 to 14: who can fire, what wraps, FIRED, periods, what is told of them, WHEN, HOLD and LEAST. */
public final class EdgesFiringTest {
    private static final Check CHECK = new Check();
    private static final long NO = BoxFlow.NO;
    private static final int NONE = -1, BAD = -2, STATE = -3;
    private static final int ADDS = 0, MULS = 1, LAST = 2, MOST = 3, COUNTS = 4;
    private static final int MIN = Integer.MIN_VALUE, MAX = Integer.MAX_VALUE;
    private static final Whole EMPTY = new Whole(CHECK, "none", States::none);
    private static final Whole SOME = new Whole(CHECK, "some", States::some);
    private static final Whole FILLED = new Whole(CHECK, "full", States::full);
    private static final Whole UNEVEN = new Whole(CHECK, "uneven", States::uneven);
    private static final Whole STANDING = new Whole(CHECK, "standing", States::standing);

    public static void main(String[] args) {
        nothingTaken();
        madeWraps();
        latestAndGreatest();
        putsWrap();
        takenByNumbers();
        putByNumbers();
        emptyAndFull();
        firedAtMost();
        firedAtMostInPeriods();
        fireRefusals();
        periodNumbers();
        periodStands();
        periodUneven();
        periodRefusals();
        firstByNumber();
        noMoreThanItsTimes();
        toldWhat();
        toldStands();
        toldHold();
        leastOfEight();
        leastOfNone();
        leastByRoom();
        leastBelowHold();
        toldTokens();
        toldRefusals();
        whenPlaces();
        whenStands();
        whenRefusals();
        askingChangesNothing();
        CHECK.end("EdgesFiringTest");
    }

    // ---- promise 11: fire

    /** "ADDS: v and all of these"; ..; "LAST: the latest, v, if nothing is taken"; "COUNTS: FIRED, times v". */
    private static void nothingTaken() {
        for (int v : new int[] {0, 1, 9}) {
            BoxFlow x = Check.boxes(ADDS, v, MULS, v, LAST, v, MOST, v, COUNTS, v);
            for (int b = 0; b < 4; b++) {
                CHECK.due("kind " + b + " of nothing", x.fire(b), v);
                CHECK.due("kind " + b + " again", x.fire(b), v);
            }
            CHECK.due("counts, never fired", x.fire(4), 0);
            CHECK.due("counts, fired once", x.fire(4), v);
            CHECK.due("counts, fired twice", x.fire(4), 2 * v);
        }
    }

    /** A box of a kind that takes these, all at once, from a wire: what it makes. */
    private static long made(int kind, int v, int... tokens) {
        BoxFlow x = Check.boxes(kind, v);
        x.wire(0, 0, 1, tokens.length);
        Check.tokens(x, 0, tokens);
        long made = x.fire(0);
        CHECK.due("made is what comes", x.read(0, 0), made);
        return made;
    }

    /** "(all wrapping)": made at the last number that an int has, and one step beyond, both ways. */
    private static void madeWraps() {
        CHECK.due("adds", made(ADDS, 1, MAX - 2), MAX - 1);
        CHECK.due("adds", made(ADDS, 1, MAX - 1), MAX);
        CHECK.due("adds wraps", made(ADDS, 1, MAX), MIN);
        CHECK.due("adds", made(ADDS, 0, MIN + 1, -1), MIN);
        CHECK.due("adds wraps", made(ADDS, 0, MIN, -1), MAX);
        CHECK.due("adds wraps and comes back", made(ADDS, 1, MAX, MIN, 5), 5);
        CHECK.due("adds four times", made(ADDS, 9, MAX, MAX, MAX, MAX), 5);
        CHECK.due("multiplied", made(MULS, 1, MAX), MAX);
        CHECK.due("multiplied", made(MULS, 2, (1 << 30) - 1), MAX - 1);
        CHECK.due("multiplied wraps", made(MULS, 2, 1 << 30), MIN);
        CHECK.due("multiplied", made(MULS, 2, -(1 << 30)), MIN);
        CHECK.due("multiplied wraps", made(MULS, 2, -(1 << 30) - 1), MAX - 1);
        CHECK.due("multiplied wraps", made(MULS, 1, MIN, -1), MIN);
        CHECK.due("multiplied to nothing", made(MULS, 1, 1 << 16, 1 << 16), 0);
        CHECK.due("multiplied by 0", made(MULS, 0, MAX, MAX), 0);
        CHECK.due("counts", countsOnce(1, MAX - 1), MAX);
        CHECK.due("counts wraps", countsOnce(1, MAX), MIN);
        CHECK.due("counts wraps", countsOnce(9, MAX), MIN + 8);
    }

    /** What COUNTS makes of a token when it has fired once. */
    private static long countsOnce(int v, int token) {
        BoxFlow x = Check.boxes(COUNTS, v);
        x.fire(0);
        x.wire(0, 0, 1, 1);
        x.token(0, token);
        return x.fire(0);
    }

    /** "LAST: the latest"; "MOST: the greatest of v and these". */
    private static void latestAndGreatest() {
        CHECK.due("the latest", made(LAST, 9, 5), 5);
        CHECK.due("the latest", made(LAST, 9, 5, MIN), MIN);
        CHECK.due("the latest", made(LAST, 9, 1, 2, 3, 4), 4);
        CHECK.due("below v", made(MOST, 9, 8), 9);
        CHECK.due("as v", made(MOST, 9, 9), 9);
        CHECK.due("above v", made(MOST, 9, 10), 10);
        CHECK.due("far below", made(MOST, 0, MIN, -1), 0);
        CHECK.due("the first one", made(MOST, 0, MAX, 5, MIN), MAX);
        CHECK.due("the last one", made(MOST, 0, MIN, 5, MAX), MAX);
    }

    /** A box makes so much of one token and puts 1 .. 4: those that come. */
    private static void puts(int kind, int v, int token, int... want) {
        for (int puts = 1; puts <= 4; puts++) {
            BoxFlow x = Check.boxes(kind, v, 0, 0);
            x.wire(1, 0, 1, 1);
            x.wire(0, 1, puts, 1);
            x.token(0, token);
            x.fire(0);
            CHECK.due("how many", x.about(1, 4), puts);
            for (int j = 0; j < puts; j++) {
                CHECK.due("kind " + kind + " of " + token + " puts " + j, x.read(1, j), want[j]);
            }
        }
    }

    /** "then .. come PUTS TOKENS, for j = 0, 1, ..: .. (all wrapping)". */
    private static void putsWrap() {
        puts(ADDS, 0, 10, 10, 11, 12, 13);
        puts(ADDS, 0, MAX - 3, MAX - 3, MAX - 2, MAX - 1, MAX);
        puts(ADDS, 0, MAX - 2, MAX - 2, MAX - 1, MAX, MIN);
        puts(ADDS, 0, MAX, MAX, MIN, MIN + 1, MIN + 2);
        puts(MULS, 1, MAX, MAX, MAX, MAX, MAX);
        puts(MULS, 2, 1 << 30, MIN, MIN, MIN, MIN);
        puts(LAST, 9, MIN + 3, MIN + 3, MIN + 2, MIN + 1, MIN);
        puts(LAST, 9, MIN + 2, MIN + 2, MIN + 1, MIN, MAX);
        puts(LAST, 9, MIN, MIN, MAX, MAX - 1, MAX - 2);
        puts(MOST, 3, 10, 10, 3, 10, 3);
        puts(MOST, 3, 2, 3, 3, 3, 3);
        puts(COUNTS, 9, 10, 10, 20, 30, 40);
        puts(COUNTS, 9, (1 << 29) - 1, (1 << 29) - 1, (1 << 30) - 2, 3 * ((1 << 29) - 1), MAX - 3);
        puts(COUNTS, 9, 1 << 29, 1 << 29, 1 << 30, 3 << 29, MIN);
        puts(COUNTS, 9, 1 << 30, 1 << 30, MIN, -(1 << 30), 0);
        puts(COUNTS, 9, MIN, MIN, 0, MIN, 0);
    }

    /** "from each WIRE to it, by their numbers, TAKES TOKENS are taken, the earliest first". */
    private static void takenByNumbers() {
        BoxFlow x = Check.boxes(LAST, 0, LAST, 0);
        x.wire(1, 0, 1, 1);
        x.wire(1, 0, 1, 2);
        x.wire(1, 0, 1, 1);
        Check.tokens(x, 2, 7, 8);
        Check.tokens(x, 1, 4, 5, 6);
        Check.tokens(x, 0, 1, 2);
        CHECK.due("the latest is that of the greatest number", x.fire(0), 7);
        CHECK.due("wire 0", x.read(0, 0), 2);
        CHECK.due("wire 1", x.read(1, 0), 6);
        CHECK.due("wire 2", x.read(2, 0), 8);
        for (int wire = 0; wire < 3; wire++) {
            CHECK.due("one is left", x.about(wire, 4), 1);
        }
        x.cut(2);
        x.token(1, 60);
        CHECK.due("now that of wire 1", x.fire(0), 60);
    }

    /** "then on each WIRE from it, by their numbers, come PUTS TOKENS": each from j = 0 on. */
    private static void putByNumbers() {
        BoxFlow x = Check.boxes(ADDS, 5, ADDS, 0);
        x.wire(0, 1, 1, 1);
        x.wire(0, 0, 3, 2);
        x.wire(0, 1, 4, 1);
        Check.tokens(x, 1, 10, 20, 30);
        x.token(2, 99);
        CHECK.due("made", x.fire(0), 35);
        long[][] want = {{35, NO}, {30, 35, 36, 37, NO}, {99, 35, 36, 37, 38, NO}};
        for (int wire = 0; wire < 3; wire++) {
            for (int k = 0; k < want[wire].length; k++) {
                CHECK.due("wire " + wire + " token " + k, x.read(wire, k), want[wire][k]);
            }
        }
    }

    /** A wire is emptied by a firing, and filled to 99 by another one. */
    private static void emptyAndFull() {
        BoxFlow x = Check.boxes(ADDS, 1, ADDS, 0);
        x.wire(0, 1, 4, 4);
        States.fill(x, 0, 4);
        CHECK.due("all four", x.fire(1), 100 + 101 + 102 + 103);
        CHECK.due("empty", x.about(0, 4), 0);
        CHECK.due("nothing left", x.fire(1), NO);
        States.fill(x, 0, 95);
        CHECK.due("to 99", x.fire(0), 1);
        CHECK.due("99", x.about(0, 4), 99);
        CHECK.due("the latest", x.read(0, 98), 4);
        CHECK.due("no room", x.fire(0), NO);
        CHECK.due("still 99", x.about(0, 4), 99);
        CHECK.due("fired once", x.of(0, 2), 1);
    }

    /** A box 0 that fires 54 times in a period and has room to fire 99 times more. */
    private static BoxFlow often(int kind, int v) {
        BoxFlow x = Check.boxes(kind, v, ADDS, 0, ADDS, 0, ADDS, 0, ADDS, 0);
        Check.graph(x, "0:1>1:3;1:1>2:3;2:1>3:3;3:1>4:2");
        return x;
    }

    /** "FIRED is 1 more (9999 at most)": it fires all the same. */
    private static void firedAtMost() {
        BoxFlow x = often(COUNTS, 9);
        for (int k = 0; k < 20; k++) {
            CHECK.due("nine periods", x.period(9), 9);
        }
        CHECK.due("five more", x.period(5), 5);
        CHECK.due("fired", x.of(0, 2), 9990);
        for (int fired = 9990; fired < 9999; fired++) {
            CHECK.due("made at " + fired, x.fire(0), 9L * fired);
            CHECK.due("fired", x.of(0, 2), fired + 1);
        }
        CHECK.due("made at 9999", x.fire(0), 9L * 9999);
        CHECK.due("9999 at most", x.of(0, 2), 9999);
        CHECK.due("made at 9999 again", x.fire(0), 9L * 9999);
        CHECK.due("9999 at most", x.of(0, 2), 9999);
        CHECK.due("it can fire", x.of(0, 4), 1);
        CHECK.due("its tokens came", x.about(0, 4), 11);
        x.plan(0, 0);
        x.plan(0, 0);
        CHECK.due("in a plan, too", x.ends(1), 9 * (9 * 9994 + 4 * 9999));
        x.image();
        x.undo();
        CHECK.due("in the image, too", x.of(0, 2), 9999);
    }

    /** The same within a period: it goes on beyond 9999, and its box makes no more. */
    private static void firedAtMostInPeriods() {
        BoxFlow x = often(COUNTS, 1);
        for (int k = 0; k < 20; k++) {
            x.period(9);
        }
        x.period(5);
        CHECK.due("fired", x.of(0, 2), 9990);
        CHECK.due("one period more", x.period(1), 1);
        CHECK.due("9999 at most", x.of(0, 2), 9999);
        CHECK.due("others fired as often as they do", x.of(1, 2), 186 * 18);
        CHECK.due("periods go", x.period(9), 9);
        CHECK.due("9999 at most", x.of(0, 2), 9999);
        CHECK.due("others go on", x.of(1, 2), 195 * 18);
        CHECK.due("the last box", x.of(4, 2), 195);
        CHECK.due("made", x.fire(0), 9999);
    }

    /** "NO: there is no such BOX, or it can't." */
    private static void fireRefusals() {
        EMPTY.refused("fire(0)", x -> x.fire(0), NO);
        for (int box : new int[] {MIN, -1, 4, 5, 6, MAX}) {
            SOME.refused("fire(" + box + ")", x -> x.fire(box), NO);
        }
        SOME.refused("nothing on wire 0", x -> x.fire(1), NO);
        SOME.refused("nothing on wire 2", x -> x.fire(2), NO);
        STANDING.refused("two of three", x -> x.fire(2), NO);
        FILLED.refused("no room on wire 0", x -> x.fire(0), NO);
        FILLED.refused("fire(6)", x -> x.fire(6), NO);
        FILLED.refused("fire(-1)", x -> x.fire(-1), NO);
    }

    // ---- promise 12: period

    /** "n PERIODS (0 .. 9) go .. how many went. BAD". */
    private static void periodNumbers() {
        for (int n = 0; n <= 9; n++) {
            BoxFlow x = Check.boxes(ADDS, 1);
            x.wire(0, 0, 1, 1);
            x.token(0, 5);
            CHECK.due(n + " go", x.period(n), n);
            CHECK.due(n + " went", x.read(0, 0), 5 + n);
            CHECK.due("fired", x.of(0, 2), n);
        }
        for (int n : new int[] {MIN, -2, -1, 10, 11, MAX}) {
            CHECK.due(n + " go", Check.boxes(ADDS, 1).period(n), BAD);
            CHECK.due(n + " go without boxes", new BoxFlow().period(n), BAD);
        }
    }

    /** "one that would STAND doesn't, and none behind it". */
    private static void periodStands() {
        BoxFlow x = Check.boxes(ADDS, 1, ADDS, 2);
        x.wire(0, 1, 1, 1);
        x.wire(1, 0, 1, 1);
        for (int n = 0; n <= 9; n++) {
            CHECK.due("stands", x.period(n), 0);
        }
        CHECK.due("nobody fired", x.of(0, 2), 0);
        x.wire(0, 0, 1, 1);
        x.token(1, 5);
        CHECK.due("one wire is still empty", x.period(1), 0);
        CHECK.due("as it was", x.read(1, 0), 5);
        x.token(2, 50);
        CHECK.due("goes", x.period(1), 1);
        CHECK.due("went", x.read(1, 0), 58);
    }

    /** "STATE: UNEVEN": for 0 periods, too. */
    private static void periodUneven() {
        BoxFlow x = Check.boxes(ADDS, 1);
        x.wire(0, 0, 1, 2);
        States.fill(x, 0, 9);
        for (int n = 0; n <= 9; n++) {
            CHECK.due("uneven", x.period(n), STATE);
        }
        CHECK.due("nobody fired", x.of(0, 2), 0);
        x.cut(0);
        CHECK.due("even", x.period(0), 0);
        CHECK.due("even", x.period(9), 9);
    }

    /** "BAD; STATE: UNEVEN." */
    private static void periodRefusals() {
        for (int n : new int[] {MIN, -1, 10, MAX}) {
            EMPTY.refused("period(" + n + ")", x -> x.period(n), BAD);
            SOME.refused("period(" + n + ")", x -> x.period(n), BAD);
            STANDING.refused("period(" + n + ")", x -> x.period(n), BAD);
            UNEVEN.refused("BAD ahead of STATE: " + n, x -> x.period(n), BAD);
        }
        UNEVEN.refused("period(0)", x -> x.period(0), STATE);
        UNEVEN.refused("period(1)", x -> x.period(1), STATE);
        UNEVEN.refused("period(9)", x -> x.period(9), STATE);
        STANDING.refused("period(1)", x -> x.period(1), 0);
        STANDING.refused("period(9)", x -> x.period(9), 0);
        SOME.refused("period(0)", x -> x.period(0), 0);
    }

    private static void order(BoxFlow x, int... want) {
        for (int k = 0; k < want.length; k++) {
            CHECK.due("firing " + k, x.when(k), want[k]);
        }
        CHECK.due("no more", x.when(want.length), -5);
    }

    /** "always the first one by number that CAN FIRE and has FIRED less than its TIMES in it". */
    private static void firstByNumber() {
        BoxFlow x = Check.boxes(0, 0, 0, 0, 0, 0, 0, 0, 0, 0, 0, 0);
        order(x, 0, 1, 2, 3, 4, 5);
        x.wire(5, 0, 1, 1);
        order(x, 1, 2, 3, 4, 5, 0);
        x.wire(0, 1, 2, 1);
        order(x, 2, 3, 4, 5, 0, 1, 1);
        x.token(1, 0);
        order(x, 1, 2, 3, 4, 5, 0, 1);
        x.token(0, 0);
        order(x, 0, 1, 1, 2, 3, 4, 5);
    }

    /** A box that could fire more often in a period doesn't. */
    private static void noMoreThanItsTimes() {
        BoxFlow x = Check.boxes(ADDS, 0, ADDS, 0);
        x.wire(0, 1, 1, 2);
        States.fill(x, 0, 50);
        order(x, 0, 0, 1);
        CHECK.due("goes", x.period(1), 1);
        CHECK.due("twice", x.of(0, 2), 2);
        CHECK.due("once", x.of(1, 2), 1);
        CHECK.due("as many as before", x.about(0, 4), 50);
        order(x, 0, 0, 1);
    }

    // ---- promise 13: told

    private static void toldWhat() {
        BoxFlow x = Check.boxes(0, 0, 0, 0);
        x.wire(0, 1, 1, 3);
        x.token(0, 0);
        int[] want = {0, 4, 0, 4, 3, 1};
        for (int what = 0; what <= 5; what++) {
            CHECK.due("told " + what, x.told(what), want[what]);
        }
        x.wire(0, 0, 1, 2);
        int[] uneven = {1, -5, -5, -5, -5, 1};
        for (int what = 0; what <= 5; what++) {
            CHECK.due("uneven: told " + what, x.told(what), uneven[what]);
        }
    }

    /** "It STANDS, if none such CAN FIRE, and some have TIMES left." */
    private static void toldStands() {
        BoxFlow x = Check.boxes(0, 0, 0, 0);
        x.wire(0, 1, 1, 1);
        CHECK.due("no times are left", x.told(2), 0);
        x.wire(1, 1, 1, 1);
        CHECK.due("the last one has times left", x.told(2), 1);
        x.token(1, 0);
        CHECK.due("goes", x.told(2), 0);
        BoxFlow room = Check.boxes(0, 0, 0, 0);
        room.wire(0, 1, 1, 1);
        room.wire(0, 1, 1, 1);
        States.fill(room, 0, 99);
        CHECK.due("no room on one, nothing on the other", room.told(2), 1);
        room.token(1, 0);
        CHECK.due("one is enough", room.told(2), 0);
        BoxFlow almost = Check.boxes(0, 0, 0, 0);
        almost.wire(0, 1, 1, 1);
        almost.wire(0, 1, 1, 1);
        States.fill(almost, 0, 98);
        CHECK.due("room for one", almost.told(2), 0);
    }

    /** "HOLD: HELD of all WIRES, together." */
    private static void toldHold() {
        BoxFlow x = Check.boxes(0, 0, 0, 0);
        CHECK.due("no wires", x.told(3), 0);
        for (int w = 0; w < 8; w++) {
            x.wire(0, 1, 1, 1);
            CHECK.due("one each", x.told(3), w + 1);
        }
        x.cut(7);
        CHECK.due("without the one that is cut", x.told(3), 7);
        States.fill(x, 6, 5);
        CHECK.due("6 and 6", x.told(3), 12);
        x.cut(6);
        CHECK.due("without the one that is cut, and its tokens", x.told(3), 6);
        CHECK.due("least, too", x.told(4), 6);
        States.fill(x, 0, 98);
        CHECK.due("98 and 1, and 5", x.told(3), 104);
        x.token(0, 0);
        CHECK.due("no room: as it is", x.told(3), 99);
    }

    /** "TIMES are above 8, together": 8 is not above, 9 is. */
    private static void leastOfEight() {
        BoxFlow seven = Check.boxes(0, 0, 0, 0);
        seven.wire(0, 1, 3, 4);
        CHECK.due("4 and 3", seven.told(1), 7);
        CHECK.due("7 together", seven.told(4), 6);
        seven.box(0, 0);
        CHECK.due("4 and 3 and 1", seven.told(1), 8);
        CHECK.due("8 together", seven.told(4), 6);
        seven.box(0, 0);
        CHECK.due("4 and 3 and 1 and 1", seven.told(1), 9);
        CHECK.due("9 together", seven.told(4), -5);
        CHECK.due("hold all the same", seven.told(3), 12);
        BoxFlow six = Check.boxes(0, 0, 0, 0, 0, 0, 0, 0, 0, 0, 0, 0);
        CHECK.due("six boxes without wires", six.told(4), 0);
        CHECK.due("no boxes", new BoxFlow().told(4), 0);
    }

    /** "(-5: UNEVEN, or there is none". */
    private static void leastOfNone() {
        BoxFlow x = Check.boxes(0, 0, 0, 0);
        x.wire(0, 1, 1, 1);
        x.wire(1, 0, 1, 1);
        CHECK.due("there is none", x.told(4), -5);
        x.token(1, 0);
        CHECK.due("there is one", x.told(4), 2);
        x.wire(0, 0, 1, 2);
        CHECK.due("uneven", x.told(4), -5);
        x.cut(2);
        x.cut(1);
        x.wire(1, 1, 1, 1);
        CHECK.due("the last firing can't be", x.told(4), -5);
    }

    /** "(each time it CAN FIRE)": where there is no room the order is another one. */
    private static void leastByRoom() {
        BoxFlow x = Check.boxes(0, 0, 0, 0);
        x.wire(0, 1, 2, 2);
        States.fill(x, 0, 97);
        CHECK.due("that order", x.told(3), 99);
        CHECK.due("the best", x.told(4), 97);
        x.token(0, 0);
        CHECK.due("98: only one order", x.told(3), 98);
        CHECK.due("98", x.told(4), 98);
        x.wire(0, 1, 1, 1);
        CHECK.due("no order at all", x.told(4), -5);
        CHECK.due("stands", x.told(2), 1);
    }

    /** "HOLD by that by which it is least": below HOLD of the period's order, and never above it. */
    private static void leastBelowHold() {
        BoxFlow x = Check.boxes(0, 0, 0, 0, 0, 0);
        x.wire(0, 1, 1, 1);
        x.wire(0, 2, 1, 1);
        CHECK.due("no choice", x.told(3), 2);
        CHECK.due("no choice", x.told(4), 2);
        BoxFlow two = Check.boxes(0, 0, 0, 0);
        two.wire(0, 1, 1, 2);
        two.wire(1, 0, 2, 1);
        Check.tokens(two, 1, 0, 0, 0);
        CHECK.due("that order", two.told(3), 5);
        CHECK.due("it can't be less", two.told(4), 5);
        // Box 1 has tokens: it goes first in the best order, and last but one in the period's.
        BoxFlow first = Check.boxes(0, 0, 0, 0);
        first.wire(0, 1, 3, 2);
        Check.tokens(first, 0, 0, 0);
        CHECK.due("3 firings of box 1, 2 of box 0", first.told(1), 5);
        CHECK.due("that order", first.told(3), 8);
        CHECK.due("the best", first.told(4), 4);
    }

    /** "5 how many TOKENS there are": none, and all that there may be. */
    private static void toldTokens() {
        BoxFlow x = Check.boxes(0, 0);
        for (int w = 0; w < 4; w++) {
            x.wire(0, 0, 1, 2);
            States.fill(x, w, 99);
            CHECK.due("tokens", x.told(5), 99 * (w + 1));
        }
        x.cut(3);
        CHECK.due("without the one that is cut", x.told(5), 297);
        for (int w = 0; w < 3; w++) {
            x.cut(w);
        }
        CHECK.due("none", x.told(5), 0);
    }

    /** "NONE." */
    private static void toldRefusals() {
        for (int what : new int[] {MIN, -1, 6, MAX}) {
            EMPTY.refused("told(" + what + ")", x -> x.told(what), NONE);
            SOME.refused("told(" + what + ")", x -> x.told(what), NONE);
            UNEVEN.refused("told(" + what + ")", x -> x.told(what), NONE);
            STANDING.refused("told(" + what + ")", x -> x.told(what), NONE);
        }
        STANDING.refused("stands", x -> x.told(2), 1);
        STANDING.refused("least of none", x -> x.told(4), -5);
    }

    // ---- promise 14: when

    /** "WHEN k (0 and more)"; "(-5: UNEVEN, or not so many FIRE)"; "NONE: k is below 0". */
    private static void whenPlaces() {
        BoxFlow x = often(ADDS, 0);
        CHECK.due("the first", x.when(0), 0);
        CHECK.due("81 fire", x.told(1), 81);
        CHECK.due("the last but one of box 3", x.when(79), 3);
        CHECK.due("the last", x.when(80), 4);
        CHECK.due("one behind", x.when(81), -5);
        CHECK.due("far behind", x.when(360), -5);
        CHECK.due("MAX", x.when(MAX), -5);
        CHECK.due("-1", x.when(-1), NONE);
        CHECK.due("MIN", x.when(MIN), NONE);
        BoxFlow one = Check.boxes(0, 0);
        CHECK.due("one fires", one.when(0), 0);
        CHECK.due("no second", one.when(1), -5);
        CHECK.due("no boxes", new BoxFlow().when(0), -5);
        CHECK.due("no boxes", new BoxFlow().when(-1), NONE);
        x.wire(4, 4, 1, 2);
        CHECK.due("uneven", x.when(0), -5);
        CHECK.due("uneven", x.when(-1), NONE);
    }

    /** "or not so many FIRE": those that fire till it stands do. */
    private static void whenStands() {
        BoxFlow x = Check.boxes(0, 0, 0, 0, 0, 0);
        x.wire(0, 1, 2, 2);
        x.wire(2, 2, 1, 1);
        x.wire(1, 0, 1, 1);
        CHECK.due("nobody", x.when(0), -5);
        x.token(2, 0);
        order(x, 0, 1);
        x.token(1, 0);
        order(x, 0, 1, 2);
    }

    /** "NONE: k is below 0." */
    private static void whenRefusals() {
        for (int k : new int[] {MIN, -1}) {
            EMPTY.refused("when(" + k + ")", x -> x.when(k), NONE);
            SOME.refused("when(" + k + ")", x -> x.when(k), NONE);
            UNEVEN.refused("NONE ahead of -5", x -> x.when(k), NONE);
            STANDING.refused("when(" + k + ")", x -> x.when(k), NONE);
        }
        UNEVEN.refused("when(0)", x -> x.when(0), -5);
        SOME.refused("when(6)", x -> x.when(6), -5);
        SOME.refused("when(MAX)", x -> x.when(MAX), -5);
    }

    /** "All that follows is asked, and changes nothing." */
    private static void askingChangesNothing() {
        for (Whole state : new Whole[] {SOME, FILLED, UNEVEN, STANDING}) {
            for (int what = 0; what <= 5; what++) {
                int asked = what;
                state.asked("told(" + what + ")", x -> x.told(asked));
                state.asked("when(" + what + ")", x -> x.when(asked));
            }
        }
    }
}
