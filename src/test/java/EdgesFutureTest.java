/** Edges of promises 15 to 20: ON and THEN, what is SEEN and FITS, ODDS and MEAN. */
public final class EdgesFutureTest {
    private static final Check CHECK = new Check();
    private static final long NO = BoxFlow.NO;
    private static final int NONE = -1, BAD = -2, FULL = -4;
    private static final int MIN = Integer.MIN_VALUE, MAX = Integer.MAX_VALUE;
    private static final Whole EMPTY = new Whole(CHECK, "none", States::none);
    private static final Whole SOME = new Whole(CHECK, "some", States::some);
    private static final Whole FILLED = new Whole(CHECK, "full", States::full);
    private static final Whole UNEVEN = new Whole(CHECK, "uneven", States::uneven);
    private static final Whole STANDING = new Whole(CHECK, "standing", States::standing);

    public static void main(String[] args) {
        onNumbers();
        onEmptyAndFull();
        onFewer();
        onRefusals();
        thenNumbers();
        thenPlaces();
        thenFewer();
        thenFired();
        thenWraps();
        thenRefusals();
        seeNumbers();
        seeFiveRows();
        seeNoneThen();
        seeRefusals();
        fitsHowMany();
        fitsTheLeast();
        fitsNothingSeen();
        fitsAllRows();
        fitsWhatIsNotSo();
        fitsEachNumberOfPeriods();
        fitsKinds();
        fitsRefusals();
        oddsZeroToNine();
        oddsLowestTerms();
        oddsUneven();
        oddsOthers();
        oddsRefusals();
        meanOfNone();
        meanLowestTerms();
        meanBelowNothing();
        meanDoesNotWrap();
        meanRefusals();
        askingChangesNothing();
        CHECK.end("EdgesFutureTest");
    }

    /** A box that adds v to what goes round in it: 5, 50. */
    private static BoxFlow round(int v) {
        BoxFlow x = Check.boxes(0, v);
        x.wire(0, 0, 1, 1);
        Check.tokens(x, 0, 5, 50);
        return x;
    }

    // ---- promise 15: on

    /** "ON n PERIODS (0 .. 9 ..): how many TOKENS a WIRE has"; "BAD: n". */
    private static void onNumbers() {
        BoxFlow x = round(1);
        for (int n = 0; n <= 9; n++) {
            CHECK.due("on " + n, x.on(n, 0), 2);
        }
        for (int n : new int[] {MIN, -2, -1, 10, 11, MAX}) {
            CHECK.due("on " + n, x.on(n, 0), BAD);
        }
    }

    private static void onEmptyAndFull() {
        BoxFlow x = Check.boxes(0, 0, 0, 0);
        x.wire(0, 1, 4, 4);
        for (int n = 0; n <= 9; n++) {
            CHECK.due("empty", x.on(n, 0), 0);
        }
        States.fill(x, 0, 99);
        for (int n = 0; n <= 9; n++) {
            CHECK.due("full", x.on(n, 0), 99);
        }
        x.period(9);
        CHECK.due("so it is", x.about(0, 4), 99);
    }

    /** "(.. fewer, if it is UNEVEN or STANDS; that one isn't gone, then)". */
    private static void onFewer() {
        BoxFlow stands = Check.boxes(0, 0, 0, 0);
        stands.wire(0, 1, 1, 1);
        stands.wire(1, 1, 1, 1);
        BoxFlow uneven = Check.boxes(0, 0, 0, 0);
        uneven.wire(0, 1, 1, 1);
        uneven.wire(0, 1, 1, 2);
        for (int n = 0; n <= 9; n++) {
            CHECK.due("box 0 could fire, but the period stands", stands.on(n, 0), 0);
            CHECK.due("box 0 could fire, but it is uneven", uneven.on(n, 0), 0);
        }
        CHECK.due("uneven, bad", uneven.on(10, 0), BAD);
        CHECK.due("stands, bad", stands.on(-1, 0), BAD);
    }

    /** "NONE; BAD: n." */
    private static void onRefusals() {
        EMPTY.refused("on(0, 0)", x -> x.on(0, 0), NONE);
        EMPTY.refused("on(10, 0)", x -> x.on(10, 0), NONE);
        for (int wire : new int[] {MIN, -1, 4, 5, 8, MAX}) {
            SOME.refused("on(0, " + wire + ")", x -> x.on(0, wire), NONE);
            SOME.refused("wire ahead of n: " + wire, x -> x.on(-1, wire), NONE);
            SOME.refused("wire ahead of n: " + wire, x -> x.on(10, wire), NONE);
        }
        for (Whole state : new Whole[] {SOME, FILLED, UNEVEN, STANDING}) {
            state.refused("on(-1, 0)", x -> x.on(-1, 0), BAD);
            state.refused("on(10, 0)", x -> x.on(10, 0), BAD);
        }
        FILLED.refused("on(9, 8)", x -> x.on(9, 8), NONE);
    }

    // ---- promise 16: then

    private static void thenNumbers() {
        BoxFlow x = round(3);
        int[] earliest = {5, 50, 8, 53, 11, 56, 14, 59, 17, 62};
        for (int n = 0; n <= 9; n++) {
            CHECK.due("then " + n, x.then(n, 0, 0), earliest[n]);
            CHECK.due("then " + n, x.then(n, 0, 1), n == 9 ? 20 : earliest[n + 1]);
        }
        for (int n : new int[] {MIN, -2, -1, 10, 11, MAX}) {
            CHECK.due("then " + n, x.then(n, 0, 0), NO);
        }
    }

    /** "number k of its TOKENS (0 the earliest)"; "NO". */
    private static void thenPlaces() {
        BoxFlow x = Check.boxes(0, 1, 0, 1);
        x.wire(0, 0, 1, 1);
        x.wire(0, 1, 1, 1);
        CHECK.due("none there", x.then(1, 0, 0), NO);
        States.fill(x, 0, 99);
        for (int n : new int[] {0, 1, 9}) {
            CHECK.due("the earliest", x.then(n, 0, 0), 100 + n);
            CHECK.due("the latest", x.then(n, 0, 98), n == 0 ? 198 : 100 + n);
            CHECK.due("behind it", x.then(n, 0, 99), NO);
            CHECK.due("ahead", x.then(n, 0, -1), NO);
            CHECK.due("MIN", x.then(n, 0, MIN), NO);
            CHECK.due("MAX", x.then(n, 0, MAX), NO);
            CHECK.due("none there", x.then(n, 1, 0), NO);
        }
    }

    /** "fewer, if it is UNEVEN or STANDS; that one isn't gone, then". */
    private static void thenFewer() {
        BoxFlow x = Check.boxes(0, 1, 0, 2);
        x.wire(0, 0, 1, 1);
        x.wire(1, 1, 1, 1);
        x.token(0, 5);
        for (int n = 0; n <= 9; n++) {
            CHECK.due("stands: as now", x.then(n, 0, 0), 5);
            CHECK.due("stands: none", x.then(n, 1, 0), NO);
        }
        x.token(1, 7);
        CHECK.due("goes", x.then(9, 0, 0), 14);
        CHECK.due("goes", x.then(9, 1, 0), 25);
        x.wire(1, 1, 1, 2);
        States.fill(x, 2, 9);
        for (int n = 0; n <= 9; n++) {
            CHECK.due("uneven: as now", x.then(n, 0, 0), 5);
        }
    }

    /** FIRED goes on in what would be, from what it is now. */
    private static void thenFired() {
        BoxFlow x = Check.boxes(4, 1);
        x.fire(0);
        x.fire(0);
        x.wire(0, 0, 1, 1);
        x.token(0, 0);
        int[] want = {0, 2, 5, 9, 14, 20, 27, 35, 44, 54};
        for (int n = 0; n <= 9; n++) {
            CHECK.due("then " + n, x.then(n, 0, 0), want[n]);
        }
        CHECK.due("fired is as it was", x.of(0, 2), 2);
    }

    /** What wraps in a firing wraps in what would be, too. */
    private static void thenWraps() {
        BoxFlow x = Check.boxes(0, 1);
        x.wire(0, 0, 1, 1);
        x.token(0, MAX - 1);
        CHECK.due("one", x.then(1, 0, 0), MAX);
        CHECK.due("two", x.then(2, 0, 0), MIN);
        CHECK.due("three", x.then(3, 0, 0), MIN + 1);
    }

    private static void thenRefusals() {
        EMPTY.refused("then(0, 0, 0)", x -> x.then(0, 0, 0), NO);
        for (int wire : new int[] {MIN, -1, 4, 5, 8, MAX}) {
            SOME.refused("then(1, " + wire + ", 0)", x -> x.then(1, wire, 0), NO);
        }
        for (Whole state : new Whole[] {SOME, FILLED, UNEVEN, STANDING}) {
            state.refused("then(-1, 1, 0)", x -> x.then(-1, 1, 0), NO);
            state.refused("then(10, 1, 0)", x -> x.then(10, 1, 0), NO);
            state.refused("then(1, 1, -1)", x -> x.then(1, 1, -1), NO);
            state.refused("then(1, 1, 1)", x -> x.then(1, 1, 1), NO);
        }
    }

    // ---- promise 17: see

    /** "SEEN told by hand: a WIRE, PERIODS n (0 .. 4) from now"; "BAD: n". */
    private static void seeNumbers() {
        for (int n = 0; n <= 4; n++) {
            CHECK.due("n " + n, round(1).see(0, n, 5), 1);
        }
        for (int n : new int[] {MIN, -2, -1, 5, 6, 9, MAX}) {
            BoxFlow x = round(1);
            CHECK.due("n " + n, x.see(0, n, 5), BAD);
            CHECK.due("none came", x.count(3), 0);
        }
        CHECK.due("any token", round(1).see(0, 0, MIN), 1);
        CHECK.due("any token", round(1).see(0, 0, MAX), 1);
    }

    /** "(5 rows at most)"; "FULL: 5". */
    private static void seeFiveRows() {
        BoxFlow x = round(1);
        for (int r = 1; r <= 5; r++) {
            CHECK.due("row " + r, x.see(0, 0, 50), r);
            CHECK.due("rows", x.count(3), r);
        }
        CHECK.due("the sixth", x.see(0, 0, 51), FULL);
        CHECK.due("rows", x.count(3), 5);
        CHECK.due("the sixth doesn't count", x.fits(0, 0), 10);
        CHECK.due("none then", x.see(-1, 0, 0), 0);
        CHECK.due("room again", x.see(0, 0, 50), 1);
    }

    /** "(wire -1: none then, 0)": whatever n is, and however many there are. */
    private static void seeNoneThen() {
        for (int n : new int[] {MIN, -1, 0, 4, 5, MAX}) {
            BoxFlow x = round(1);
            CHECK.due("none there", x.see(-1, n, 7), 0);
            x.see(0, 0, 1);
            CHECK.due("one there", x.see(-1, n, 7), 0);
            CHECK.due("none", x.count(3), 0);
            for (int r = 0; r < 5; r++) {
                x.see(0, 0, 1);
            }
            CHECK.due("five there", x.see(-1, n, 7), 0);
            CHECK.due("none", x.count(3), 0);
            CHECK.due("all fit", x.fits(0, 0), 10);
        }
        CHECK.due("a new object", new BoxFlow().see(-1, 0, 0), 0);
    }

    /** "NONE; BAD: n; FULL: 5." */
    private static void seeRefusals() {
        EMPTY.refused("see(0, 0, 0)", x -> x.see(0, 0, 0), NONE);
        for (int wire : new int[] {MIN, -2, 4, 5, 8, MAX}) {
            SOME.refused("see(" + wire + ", 0, 0)", x -> x.see(wire, 0, 0), NONE);
            SOME.refused("wire ahead of n: " + wire, x -> x.see(wire, 5, 0), NONE);
        }
        SOME.refused("see(0, -1, 0)", x -> x.see(0, -1, 0), BAD);
        SOME.refused("see(0, 5, 0)", x -> x.see(0, 5, 0), BAD);
        FILLED.refused("see(0, 0, 0)", x -> x.see(0, 0, 0), FULL);
        FILLED.refused("see(0, 4, 0)", x -> x.see(0, 4, 0), FULL);
        FILLED.refused("n ahead of FULL", x -> x.see(0, 5, 0), BAD);
        FILLED.refused("n ahead of FULL", x -> x.see(0, -1, 0), BAD);
        FILLED.refused("wire ahead of FULL", x -> x.see(8, 0, 0), NONE);
        FILLED.refused("wire ahead of n and FULL", x -> x.see(-2, 5, 0), NONE);
    }

    // ---- promise 18: fits

    private static void fit(BoxFlow x, int box, int howMany, int least) {
        CHECK.due("how many fit", x.fits(box, 0), howMany);
        CHECK.due("the least", x.fits(box, 1), least);
    }

    /** "how many numbers v (0 .. 9) there are by which, were that its v, all of SEEN is so": none, one, all. */
    private static void fitsHowMany() {
        for (int seen = 4; seen <= 15; seen++) {
            BoxFlow x = round(1);
            x.see(0, 1, seen);
            boolean one = seen >= 5 && seen <= 14;
            fit(x, 0, one ? 1 : 0, one ? seen - 5 : -5);
        }
        for (int token = 0; token <= 10; token++) {
            BoxFlow most = Check.boxes(3, 0);
            most.wire(0, 0, 1, 1);
            most.token(0, token);
            most.see(0, 1, token);
            fit(most, 0, Math.min(10, token + 1), 0);
        }
    }

    /** "the least (-5: none)": 0, 9, and one between where others fit, too. */
    private static void fitsTheLeast() {
        BoxFlow x = round(1);
        x.see(0, 1, 5);
        fit(x, 0, 1, 0);
        x.see(-1, 0, 0);
        x.see(0, 1, 14);
        fit(x, 0, 1, 9);
        x.see(-1, 0, 0);
        x.see(0, 1, 15);
        fit(x, 0, 0, -5);
        // v times 2^31, wrapping: all odd ones bring MIN, all even ones 0.
        BoxFlow muls = Check.boxes(1, 4);
        muls.wire(0, 0, 1, 1);
        muls.token(0, MIN);
        muls.see(0, 1, MIN);
        fit(muls, 0, 5, 1);
        muls.see(-1, 0, 0);
        muls.see(0, 1, 0);
        fit(muls, 0, 5, 0);
        muls.see(-1, 0, 0);
        muls.see(0, 0, MIN);
        muls.see(0, 2, 0);
        fit(muls, 0, 5, 0);
    }

    private static void fitsNothingSeen() {
        BoxFlow x = Check.boxes(0, 7, 4, 9);
        fit(x, 0, 10, 0);
        fit(x, 1, 10, 0);
        x.wire(0, 0, 1, 2);
        fit(x, 0, 10, 0);
        fit(x, 1, 10, 0);
    }

    /** "all of SEEN is so": each of the five rows counts, the first and the last one, too. */
    private static void fitsAllRows() {
        for (int wrong = -1; wrong < 5; wrong++) {
            BoxFlow x = round(1);
            int[] seen = {50, 8, 53, 11, 56};
            for (int r = 0; r < 5; r++) {
                x.see(0, r, seen[r] + (r == wrong ? 1 : 0));
            }
            fit(x, 0, wrong < 0 ? 1 : 0, wrong < 0 ? 3 : -5);
        }
        for (int wrong = 0; wrong < 5; wrong++) {
            BoxFlow x = round(1);
            for (int r = 0; r < 5; r++) {
                x.see(0, 0, r == wrong ? 49 : 50);
            }
            fit(x, 0, 0, -5);
        }
    }

    /** "(a WIRE that is CUT, or without TOKENS then, or where so many PERIODS don't go: not so)". */
    private static void fitsWhatIsNotSo() {
        BoxFlow cut = round(1);
        cut.see(0, 0, 50);
        fit(cut, 0, 10, 0);
        cut.cut(0);
        fit(cut, 0, 0, -5);
        BoxFlow without = Check.boxes(0, 1, 0, 0);
        without.wire(0, 1, 1, 1);
        without.see(0, 0, 0);
        fit(without, 0, 0, -5);
        without.see(-1, 0, 0);
        without.see(0, 1, 1);
        fit(without, 0, 0, -5);
        without.token(0, 5);
        fit(without, 0, 1, 1);
        for (int n = 0; n <= 4; n++) {
            BoxFlow stands = Check.boxes(0, 1, 0, 1);
            stands.wire(0, 1, 1, 1);
            stands.wire(1, 1, 1, 1);
            stands.token(0, 50);
            stands.see(0, n, 50);
            fit(stands, 0, n == 0 ? 10 : 0, n == 0 ? 0 : -5);
            BoxFlow uneven = Check.boxes(0, 1, 0, 1);
            uneven.wire(0, 1, 1, 1);
            uneven.wire(1, 1, 1, 2);
            uneven.token(0, 50);
            uneven.see(0, n, 50);
            fit(uneven, 0, n == 0 ? 10 : 0, n == 0 ? 0 : -5);
        }
    }

    /** Of periods 0 .. 4 each is looked at by itself. */
    private static void fitsEachNumberOfPeriods() {
        int[] latest = {50, 9, 54, 13, 58};
        for (int n = 0; n <= 4; n++) {
            BoxFlow x = round(1);
            x.see(0, n, latest[n]);
            fit(x, 0, n == 0 ? 10 : 1, n == 0 ? 0 : 4);
            x.see(0, n, latest[n] + 1);
            fit(x, 0, 0, -5);
        }
    }

    /** "were that its v": for each kind v counts as its kind says, and its own v of now doesn't. */
    private static void fitsKinds() {
        int[] seen = {10, 35, 7, 8, 14};
        int[] howMany = {1, 1, 10, 1, 1};
        int[] least = {3, 5, 0, 8, 7};
        for (int kind = 0; kind <= 4; kind++) {
            BoxFlow x = Check.boxes(kind, 9);
            x.fire(0);
            x.wire(0, 0, 1, 1);
            x.token(0, 7);
            x.see(0, 1, seen[kind]);
            fit(x, 0, howMany[kind], least[kind]);
            CHECK.due("its v stays", x.of(0, 1), 9);
        }
    }

    /** "what 0 how many, 1 the least; -5. NONE." */
    private static void fitsRefusals() {
        for (int what = -1; what <= 2; what++) {
            int asked = what;
            EMPTY.refused("fits(0, " + what + ")", x -> x.fits(0, asked), NONE);
            for (int box : new int[] {MIN, -1, 4, 6, MAX}) {
                SOME.refused("fits(" + box + ", " + what + ")", x -> x.fits(box, asked), NONE);
            }
            FILLED.refused("fits(6, " + what + ")", x -> x.fits(6, asked), NONE);
        }
        for (int what : new int[] {MIN, -1, 2, MAX}) {
            SOME.refused("fits(0, " + what + ")", x -> x.fits(0, what), NONE);
            UNEVEN.refused("fits(0, " + what + ")", x -> x.fits(0, what), NONE);
        }
        UNEVEN.refused("none fits", x -> x.fits(0, 1), -5);
        STANDING.refused("none fits", x -> x.fits(0, 1), -5);
    }

    // ---- promise 19: odds

    private static void odd(String what, BoxFlow x, int wire, int above, int below) {
        CHECK.due(what + ", above", x.odds(wire, 0), above);
        CHECK.due(what + ", below", x.odds(wire, 1), below);
    }

    /** A round in which a wire needs so many times 3 tokens. */
    private static BoxFlow threeTimes(int takes) {
        BoxFlow x = Check.boxes(0, 0, 0, 0, 0, 0);
        Check.graph(x, "0:" + takes + ">1:" + takes + ";1:1>2:3;2:3>0:1");
        return x;
    }

    /** "if it has any of 0 .. 9 TOKENS": 0 counts, 9 counts, 10 doesn't. */
    private static void oddsZeroToNine() {
        BoxFlow free = Check.boxes(0, 0, 0, 0);
        free.wire(0, 1, 1, 1);
        odd("0 needed", free, 0, 1, 1);
        BoxFlow one = Check.boxes(0, 0);
        one.wire(0, 0, 1, 1);
        odd("1 needed", one, 0, 9, 10);
        odd("9 needed", threeTimes(3), 0, 1, 10);
        odd("10 needed", EdgesBoxesTest.fiveTimes(2), 0, 0, 1);
        CHECK.due("10 needed", EdgesBoxesTest.fiveTimes(2).about(0, 6), 10);
        odd("12 needed", threeTimes(4), 0, 0, 1);
    }

    /** "a fraction in lowest terms". */
    private static void oddsLowestTerms() {
        int[] above = {9, 4, 7, 3};
        int[] below = {10, 5, 10, 5};
        for (int takes = 1; takes <= 4; takes++) {
            BoxFlow x = Check.boxes(0, 0);
            x.wire(0, 0, takes, takes);
            odd(takes + " needed", x, 0, above[takes - 1], below[takes - 1]);
        }
        odd("5 needed", EdgesBoxesTest.fiveTimes(1), 0, 1, 2);
        odd("6 needed", threeTimes(2), 0, 2, 5);
    }

    /** "(0, if UNEVEN)": nothing by 1. */
    private static void oddsUneven() {
        BoxFlow x = Check.boxes(0, 0);
        x.wire(0, 0, 1, 2);
        odd("uneven", x, 0, 0, 1);
        x.wire(0, 0, 1, 1);
        odd("uneven", x, 1, 0, 1);
        x.cut(0);
        odd("even", x, 1, 9, 10);
    }

    /** The others have what they have now; its own tokens of now don't matter. */
    private static void oddsOthers() {
        BoxFlow x = Check.boxes(0, 0, 0, 0);
        x.wire(0, 1, 1, 1);
        x.wire(1, 0, 1, 1);
        odd("nothing on the other", x, 0, 9, 10);
        x.token(1, 0);
        odd("one on the other", x, 0, 1, 1);
        odd("its own don't matter", x, 1, 9, 10);
        States.fill(x, 1, 98);
        odd("its own 99 don't matter", x, 1, 9, 10);
        CHECK.due("they stay", x.about(1, 4), 99);
        // Box 0 has no room on wire 2, so box 1 has to go first: wire 0 must have a token.
        BoxFlow room = Check.boxes(0, 0, 0, 0);
        room.wire(0, 1, 1, 1);
        room.wire(0, 1, 1, 1);
        States.fill(room, 1, 99);
        odd("no room on the other", room, 0, 9, 10);
    }

    /** "NO: wire, part." */
    private static void oddsRefusals() {
        EMPTY.refused("odds(0, 0)", x -> x.odds(0, 0), NO);
        for (int wire : new int[] {MIN, -1, 4, 5, 8, MAX}) {
            SOME.refused("odds(" + wire + ", 0)", x -> x.odds(wire, 0), NO);
            SOME.refused("odds(" + wire + ", 1)", x -> x.odds(wire, 1), NO);
        }
        for (int part : new int[] {MIN, -1, 2, MAX}) {
            SOME.refused("odds(0, " + part + ")", x -> x.odds(0, part), NO);
            UNEVEN.refused("odds(0, " + part + ")", x -> x.odds(0, part), NO);
            FILLED.refused("odds(8, " + part + ")", x -> x.odds(8, part), NO);
        }
    }

    // ---- promise 20: mean

    private static BoxFlow onWires(int... tokens) {
        BoxFlow x = Check.boxes(0, 0);
        x.wire(0, 0, 1, 1);
        x.wire(0, 0, 1, 1);
        for (int k = 0; k < tokens.length; k++) {
            x.token(k % 2, tokens[k]);
        }
        return x;
    }

    private static void mean(long above, long below, int... tokens) {
        BoxFlow x = onWires(tokens);
        CHECK.due("mean above", x.mean(0), above);
        CHECK.due("mean below", x.mean(1), below);
    }

    /** "NO: there are none". */
    private static void meanOfNone() {
        CHECK.due("no wires", new BoxFlow().mean(0), NO);
        CHECK.due("no wires", new BoxFlow().mean(1), NO);
        mean(NO, NO);
        mean(0, 1, 0);
        mean(7, 1, 7);
        BoxFlow x = onWires(7, 9);
        x.cut(0);
        CHECK.due("one is left", x.mean(0), 9);
        x.cut(1);
        CHECK.due("none is left", x.mean(0), NO);
        CHECK.due("none is left", x.mean(1), NO);
    }

    /** "a fraction in lowest terms". */
    private static void meanLowestTerms() {
        mean(3, 2, 1, 2);
        mean(2, 1, 1, 3);
        mean(0, 1, 0, 0, 0);
        mean(1, 3, 0, 0, 1);
        mean(1, 1, 1, 1, 1);
        mean(3, 2, 1, 2, 2, 1);
        mean(15, 8, 5, 5, 0, 0, 0, 0, 0, 0, 5, 5, 0, 0, 5, 0, 0, 5);
    }

    /** "may be below 0"; "(below the line it is above 0". */
    private static void meanBelowNothing() {
        mean(-1, 1, -1);
        mean(-1, 2, -1, 0);
        mean(-1, 2, -1, -1, 1, -1);
        mean(0, 1, -1, 1);
        mean(1, 2, -1, 2);
        mean(-3, 1, -1, -5);
    }

    /** Only ENDS is told to wrap. */
    private static void meanDoesNotWrap() {
        mean(MAX, 1, MAX);
        mean(MAX, 1, MAX, MAX);
        mean(1L << 30, 1, MAX, 1);
        mean(MIN, 1, MIN, MIN);
        mean(MIN - 1L, 2, MIN, -1);
        mean(3L * MAX - 2, 3, MAX, MAX, MAX - 2);
        BoxFlow x = Check.boxes(0, 0);
        for (int w = 0; w < 5; w++) {
            x.wire(0, 0, 1, 1);
            for (int k = 0; k < 99; k++) {
                x.token(w, k == 98 ? MIN + 1 : MIN);
            }
        }
        CHECK.due("495 of the least", x.mean(0), 99L * MIN + 1);
        CHECK.due("by 99", x.mean(1), 99);
    }

    /** "part likewise. NO." */
    private static void meanRefusals() {
        for (int part : new int[] {MIN, -1, 2, MAX}) {
            EMPTY.refused("mean(" + part + ")", x -> x.mean(part), NO);
            SOME.refused("mean(" + part + ")", x -> x.mean(part), NO);
            FILLED.refused("mean(" + part + ")", x -> x.mean(part), NO);
        }
        EMPTY.refused("mean(0)", x -> x.mean(0), NO);
        EMPTY.refused("mean(1)", x -> x.mean(1), NO);
    }

    /** "what is asked changes nothing". */
    private static void askingChangesNothing() {
        for (Whole state : new Whole[] {SOME, FILLED, UNEVEN, STANDING}) {
            for (int part = 0; part <= 1; part++) {
                int asked = part;
                state.asked("fits(0, " + part + ")", x -> x.fits(0, asked));
                state.asked("fits(3, " + part + ")", x -> x.fits(3, asked));
                state.asked("odds(1, " + part + ")", x -> x.odds(1, asked));
                state.asked("mean(" + part + ")", x -> x.mean(asked));
            }
            for (int n = 0; n <= 9; n++) {
                int asked = n;
                state.asked("on(" + n + ", 1)", x -> x.on(asked, 1));
                state.asked("then(" + n + ", 1, 0)", x -> x.then(asked, 1, 0));
            }
        }
    }
}
