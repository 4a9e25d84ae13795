/** Edges of promises 25 and 29 to 32: TOKENS that are JUDGED, tapes, their items, and what is shifted. */
public final class EdgesTapesTest {
    private static final Check CHECK = new Check();
    private static final long NO = BoxFlow.NO;
    private static final int NONE = -1, BAD = -2, NOTHING = -11, CAST = -12, PLACE = -13, SIZE = -14;
    private static final int BYTES = 0, SHORTS = 1, INTS = 2, LONGS = 3, BOOLEANS = 4;
    private static final int MIN = Integer.MIN_VALUE, MAX = Integer.MAX_VALUE;
    private static final Whole EMPTY = new Whole(CHECK, "none", States::none);
    private static final Whole SOME = new Whole(CHECK, "some", States::some);
    private static final Whole FILLED = new Whole(CHECK, "full", States::full);

    public static void main(String[] args) {
        judgedFirstOtherwise();
        judgedNone();
        judgedRowEnds();
        judgedPlace();
        judgedValues();
        judgedSixty();
        judgeRefusals();
        tapeNumbers();
        tapeSorts();
        tapeSizes();
        tapeAnew();
        tapeRefusals();
        itemPlaces();
        itemLowestBits();
        itemBooleans();
        itemRefusals();
        peekRefusals();
        shiftEnds();
        shiftNothing();
        shiftAsTheyWere();
        shiftSorts();
        shiftSums();
        shiftRefusals();
        askingChangesNothing();
        CHECK.end("EdgesTapesTest");
    }

    // ---- promise 25: judge

    /** A wire with these tokens, and tape 0 a row of these ints. */
    private static BoxFlow judged(int[] tokens, int... row) {
        BoxFlow x = Check.boxes(0, 0);
        x.wire(0, 0, 1, 1);
        Check.tokens(x, 0, tokens);
        x.tape(0, INTS, row.length);
        for (int i = 0; i < row.length; i++) {
            x.item(0, i, row[i]);
        }
        return x;
    }

    /** "TOKENS of a WIRE told by a row of ints .. are JUDGED: the first that is otherwise". */
    private static void judgedFirstOtherwise() {
        int[] tokens = {7, 8, 9};
        CHECK.due("the first", judged(tokens, 6, 8, 9).judge(0, 0, 0), 0);
        CHECK.due("the second", judged(tokens, 7, 9, 9).judge(0, 0, 0), 1);
        CHECK.due("the last", judged(tokens, 7, 8, 8).judge(0, 0, 0), 2);
        CHECK.due("the first of two", judged(tokens, 7, 0, 0).judge(0, 0, 0), 1);
        CHECK.due("none", judged(tokens, 7, 8, 9).judge(0, 0, 0), -5);
        CHECK.due("otherwise ahead of the row's end", judged(tokens, 7, 0).judge(0, 0, 0), 1);
        CHECK.due("the row is longer", judged(tokens, 7, 8, 9, 10).judge(0, 0, 0), -5);
    }

    /** "-5: none, or it has none": whatever the place and the tape are, if it is no row of another sort. */
    private static void judgedNone() {
        BoxFlow x = judged(new int[0], 7);
        for (int i : new int[] {MIN, -1, 0, 1, 2, 60, MAX}) {
            CHECK.due("it has none", x.judge(0, 0, i), -5);
            CHECK.due("it has none, the tape holds nothing", x.judge(0, 1, i), -5);
        }
        x.tape(0, INTS, 0);
        CHECK.due("it has none, the row has none", x.judge(0, 0, 0), -5);
        x.token(0, 7);
        CHECK.due("it has one, the row has none", x.judge(0, 0, 0), 100);
    }

    /** "100 and how many were looked at, if the row ends ahead of that". */
    private static void judgedRowEnds() {
        int[] tokens = {7, 8, 9};
        CHECK.due("none looked at", judged(tokens).judge(0, 0, 0), 100);
        CHECK.due("one looked at", judged(tokens, 7).judge(0, 0, 0), 101);
        CHECK.due("two looked at", judged(tokens, 7, 8).judge(0, 0, 0), 102);
        CHECK.due("all looked at", judged(tokens, 7, 8, 9).judge(0, 0, 0), -5);
    }

    /** "from a place on"; "(or the place is below 0, or the TAPE holds nothing)". */
    private static void judgedPlace() {
        BoxFlow x = judged(new int[] {7, 8}, 5, 7, 8, 7);
        CHECK.due("place 0", x.judge(0, 0, 0), 0);
        CHECK.due("place 1", x.judge(0, 0, 1), -5);
        CHECK.due("place 2", x.judge(0, 0, 2), 0);
        CHECK.due("place 3", x.judge(0, 0, 3), 101);
        CHECK.due("place 4, the end", x.judge(0, 0, 4), 100);
        CHECK.due("place 5, behind the end", x.judge(0, 0, 5), 100);
        CHECK.due("place MAX", x.judge(0, 0, MAX), 100);
        CHECK.due("place -1", x.judge(0, 0, -1), 100);
        CHECK.due("place MIN", x.judge(0, 0, MIN), 100);
        CHECK.due("the tape holds nothing", x.judge(0, 1, 0), 100);
        CHECK.due("the tape holds nothing, place -1", x.judge(0, 5, -1), 100);
        x.tape(0, -1, 0);
        CHECK.due("it holds nothing any more", x.judge(0, 0, 1), 100);
    }

    private static void judgedValues() {
        int[] ends = {MIN, -1, 0, 1, MAX};
        CHECK.due("all so", judged(ends, ends).judge(0, 0, 0), -5);
        for (int k = 0; k < ends.length; k++) {
            int[] row = ends.clone();
            row[k] ^= MIN;
            CHECK.due("its highest bit", judged(ends, row).judge(0, 0, 0), k);
        }
    }

    /** The longest row that there is: 60 are told, and of 61 tokens one isn't. */
    private static void judgedSixty() {
        BoxFlow x = Check.boxes(0, 0);
        x.wire(0, 0, 1, 1);
        x.tape(5, INTS, 60);
        for (int k = 0; k < 60; k++) {
            x.token(0, k);
            x.item(5, k, k);
        }
        CHECK.due("60 of 60", x.judge(0, 5, 0), -5);
        x.token(0, 60);
        CHECK.due("60 of 61", x.judge(0, 5, 0), 160);
        for (int k = 61; k < 99; k++) {
            x.token(0, k);
        }
        CHECK.due("60 of 99", x.judge(0, 5, 0), 160);
        x.item(5, 59, 0);
        CHECK.due("the last one of the row", x.judge(0, 5, 0), 59);
    }

    /** "NONE: wire, tape; CAST: it is no row of ints." */
    private static void judgeRefusals() {
        EMPTY.refused("judge(0, 0, 0)", x -> x.judge(0, 0, 0), NONE);
        for (int wire : new int[] {MIN, -1, 4, 5, 8, MAX}) {
            SOME.refused("judge(" + wire + ", 2, 0)", x -> x.judge(wire, 2, 0), NONE);
            SOME.refused("wire ahead of CAST: " + wire, x -> x.judge(wire, 0, 0), NONE);
        }
        for (int tape : new int[] {MIN, -1, 6, MAX}) {
            SOME.refused("judge(1, " + tape + ", 0)", x -> x.judge(1, tape, 0), NONE);
            SOME.refused("no tokens, no tape: " + tape, x -> x.judge(0, tape, -1), NONE);
        }
        for (int tape : new int[] {BYTES, SHORTS, LONGS, BOOLEANS}) {
            SOME.refused("a row of " + tape, x -> x.judge(1, tape, 0), CAST);
            SOME.refused("CAST ahead of the place: " + tape, x -> x.judge(1, tape, -1), CAST);
            SOME.refused("CAST ahead of a wire without tokens: " + tape, x -> x.judge(0, tape, 0), CAST);
        }
        BoxFlow x = judged(new int[] {0}, 0);
        x.tape(1, LONGS, 0);
        CHECK.due("a row of no longs", x.judge(0, 1, 0), CAST);
    }

    // ---- promise 29: tape

    /** "TAPES 0 .. 5 hold nothing (at first)". */
    private static void tapeNumbers() {
        BoxFlow x = new BoxFlow();
        for (int tape = 0; tape < 6; tape++) {
            CHECK.due("nothing at first", x.item(tape, 0, 0), NOTHING);
            CHECK.due("tape " + tape, x.tape(tape, BYTES, 1), 1);
            CHECK.due("its item", x.peek(tape, 0), 0);
        }
        for (int tape : new int[] {MIN, -2, -1, 6, 7, MAX}) {
            CHECK.due("tape " + tape, x.tape(tape, BYTES, 1), NONE);
            CHECK.due("tape " + tape + " to nothing", x.tape(tape, -1, 0), NONE);
        }
    }

    /** "a row of 0 bytes, 1 shorts, 2 ints, 3 longs, 4 booleans"; "(sort -1: n does not matter)"; "BAD: sort". */
    private static void tapeSorts() {
        BoxFlow x = new BoxFlow();
        for (int sort = 0; sort <= 4; sort++) {
            CHECK.due("sort " + sort, x.tape(0, sort, 1), 1);
            CHECK.due("a row", x.item(0, 0, 0), 1);
        }
        for (int sort : new int[] {MIN, -3, -2, 5, 6, MAX}) {
            CHECK.due("sort " + sort, x.tape(0, sort, 1), BAD);
            CHECK.due("still a row", x.item(0, 0, 0), 1);
        }
        for (int n : new int[] {MIN, -1, 0, 60, 61, MAX}) {
            x.tape(0, INTS, 1);
            CHECK.due("nothing, n " + n, x.tape(0, -1, n), 1);
            CHECK.due("nothing there", x.item(0, 0, 0), NOTHING);
            CHECK.due("nothing again", x.tape(0, -1, n), 1);
        }
    }

    /** "a row of n (0 .. 60) of a sort, all 0"; "BAD: .. n above 60; SIZE". */
    private static void tapeSizes() {
        BoxFlow x = new BoxFlow();
        for (int sort = 0; sort <= 4; sort++) {
            for (int n : new int[] {0, 1, 59, 60}) {
                CHECK.due("n " + n, x.tape(0, sort, n), 1);
                CHECK.due("the last", x.peek(0, n - 1), n == 0 ? NO : 0);
                CHECK.due("behind it", x.peek(0, n), NO);
                CHECK.due("the last", x.item(0, n - 1, 1), n == 0 ? PLACE : 1);
                CHECK.due("behind it", x.item(0, n, 1), PLACE);
            }
            for (int n : new int[] {61, 62, MAX}) {
                CHECK.due("n " + n, x.tape(0, sort, n), BAD);
            }
            for (int n : new int[] {-1, -2, MIN}) {
                CHECK.due("n " + n, x.tape(0, sort, n), SIZE);
            }
            CHECK.due("as it was", x.peek(0, 59), 1);
        }
    }

    /** "all 0": nothing is left of the row that was there. */
    private static void tapeAnew() {
        BoxFlow x = new BoxFlow();
        x.tape(0, LONGS, 60);
        for (int i = 0; i < 60; i++) {
            x.item(0, i, -1);
        }
        x.tape(0, LONGS, 1);
        CHECK.due("the first", x.peek(0, 0), 0);
        CHECK.due("no second", x.peek(0, 1), NO);
        x.tape(0, LONGS, 60);
        for (int i = 0; i < 60; i++) {
            CHECK.due("all 0", x.peek(0, i), 0);
        }
        x.item(0, 59, 5);
        x.tape(0, -1, 0);
        CHECK.due("nothing", x.peek(0, 59), NO);
        x.tape(0, BYTES, 60);
        CHECK.due("all 0", x.peek(0, 59), 0);
    }

    /** "NONE: tape; BAD: sort, n above 60; SIZE." */
    private static void tapeRefusals() {
        for (Whole state : new Whole[] {EMPTY, SOME, FILLED}) {
            state.refused("tape(-1, 0, 1)", x -> x.tape(-1, 0, 1), NONE);
            state.refused("tape(6, 0, 1)", x -> x.tape(6, 0, 1), NONE);
            state.refused("tape(6, -1, 0)", x -> x.tape(6, -1, 0), NONE);
            state.refused("tape ahead of sort", x -> x.tape(6, 5, 1), NONE);
            state.refused("tape ahead of n", x -> x.tape(-1, 0, 61), NONE);
            state.refused("tape ahead of SIZE", x -> x.tape(6, 0, -1), NONE);
            state.refused("tape(0, 5, 1)", x -> x.tape(0, 5, 1), BAD);
            state.refused("tape(0, -2, 1)", x -> x.tape(0, -2, 1), BAD);
            state.refused("tape(0, 0, 61)", x -> x.tape(0, 0, 61), BAD);
            state.refused("sort ahead of SIZE", x -> x.tape(0, 5, -1), BAD);
            state.refused("sort ahead of SIZE", x -> x.tape(0, -2, -1), BAD);
            state.refused("tape(0, 0, -1)", x -> x.tape(0, 0, -1), SIZE);
            state.refused("tape(5, 4, MIN)", x -> x.tape(5, 4, MIN), SIZE);
        }
    }

    // ---- promise 30: item

    private static void itemPlaces() {
        BoxFlow x = new BoxFlow();
        x.tape(5, INTS, 60);
        CHECK.due("the first", x.item(5, 0, 10), 1);
        CHECK.due("the last", x.item(5, 59, 20), 1);
        CHECK.due("ahead of the first", x.item(5, -1, 30), PLACE);
        CHECK.due("behind the last", x.item(5, 60, 30), PLACE);
        CHECK.due("MIN", x.item(5, MIN, 30), PLACE);
        CHECK.due("MAX", x.item(5, MAX, 30), PLACE);
        CHECK.due("the first", x.peek(5, 0), 10);
        CHECK.due("its neighbour", x.peek(5, 1), 0);
        CHECK.due("the last", x.peek(5, 59), 20);
        CHECK.due("its neighbour", x.peek(5, 58), 0);
    }

    private static void keeps(int sort, long v, long want) {
        BoxFlow x = new BoxFlow();
        x.tape(0, sort, 1);
        CHECK.due("item", x.item(0, 0, v), 1);
        CHECK.due("sort " + sort + " of " + v, x.peek(0, 0), want);
    }

    /** "Item i of a TAPE becomes v (its lowest bits, as many as an item has". */
    private static void itemLowestBits() {
        int[] bits = {8, 16, 32, 64};
        for (int sort = BYTES; sort <= LONGS; sort++) {
            long least = -1L << bits[sort] - 1, greatest = -1 - least;
            keeps(sort, greatest - 1, greatest - 1);
            keeps(sort, greatest, greatest);
            keeps(sort, greatest + 1, least);
            keeps(sort, least + 1, least + 1);
            keeps(sort, least, least);
            keeps(sort, least - 1, greatest);
            keeps(sort, 0, 0);
            keeps(sort, -1, -1);
            keeps(sort, Long.MAX_VALUE, sort == LONGS ? Long.MAX_VALUE : -1);
            keeps(sort, Long.MIN_VALUE, sort == LONGS ? Long.MIN_VALUE : 0);
        }
        keeps(BYTES, 255, -1);
        keeps(BYTES, 256, 0);
        keeps(BYTES, 257, 1);
        keeps(SHORTS, 65535, -1);
        keeps(SHORTS, 65536, 0);
        keeps(INTS, (1L << 32) - 1, -1);
        keeps(INTS, 1L << 32, 0);
        keeps(INTS, (1L << 32) + 1, 1);
    }

    /** "booleans: whether v is not 0)": also where the lowest bits are 0. */
    private static void itemBooleans() {
        keeps(BOOLEANS, 0, 0);
        for (long v : new long[] {1, -1, 2, 256, 1L << 32, Long.MIN_VALUE, Long.MAX_VALUE}) {
            keeps(BOOLEANS, v, 1);
        }
        BoxFlow x = new BoxFlow();
        x.tape(0, BOOLEANS, 1);
        x.item(0, 0, 5);
        x.item(0, 0, 0);
        CHECK.due("0 again", x.peek(0, 0), 0);
    }

    /** "NONE; NOTHING; PLACE." */
    private static void itemRefusals() {
        for (Whole state : new Whole[] {EMPTY, SOME, FILLED}) {
            state.refused("item(-1, 0, 1)", x -> x.item(-1, 0, 1), NONE);
            state.refused("item(6, 0, 1)", x -> x.item(6, 0, 1), NONE);
            state.refused("tape ahead of PLACE", x -> x.item(6, -1, 1), NONE);
        }
        EMPTY.refused("item(0, 0, 1)", x -> x.item(0, 0, 1), NOTHING);
        SOME.refused("item(5, 0, 1)", x -> x.item(5, 0, 1), NOTHING);
        SOME.refused("NOTHING ahead of PLACE", x -> x.item(5, -1, 1), NOTHING);
        SOME.refused("NOTHING ahead of PLACE", x -> x.item(5, 60, 1), NOTHING);
        for (int tape = 0; tape < 5; tape++) {
            int asked = tape;
            SOME.refused("item(" + tape + ", -1, 1)", x -> x.item(asked, -1, 1), PLACE);
            SOME.refused("item(" + tape + ", 3, 1)", x -> x.item(asked, 3, 1), PLACE);
            FILLED.refused("item(" + tape + ", 60, 1)", x -> x.item(asked, 60, 1), PLACE);
        }
    }

    // ---- promise 31: peek

    /** "NO: no such TAPE, nothing there, no such place." */
    private static void peekRefusals() {
        EMPTY.refused("peek(0, 0)", x -> x.peek(0, 0), NO);
        for (int tape : new int[] {MIN, -1, 6, MAX}) {
            SOME.refused("peek(" + tape + ", 0)", x -> x.peek(tape, 0), NO);
        }
        SOME.refused("nothing there", x -> x.peek(5, 0), NO);
        SOME.refused("nothing there", x -> x.peek(5, -1), NO);
        for (int i : new int[] {MIN, -1, 3, 60, MAX}) {
            SOME.refused("peek(3, " + i + ")", x -> x.peek(3, i), NO);
        }
        for (int i : new int[] {MIN, -1, 60, MAX}) {
            FILLED.refused("peek(5, " + i + ")", x -> x.peek(5, i), NO);
        }
    }

    // ---- promise 32: shift

    /** Tape 0: 10 .. 14, tape 1: 20, 21, 22, tape 2: five longs, tape 3: no ints, tape 4: 60 ints; tape 5 nothing. */
    private static BoxFlow rows() {
        BoxFlow x = new BoxFlow();
        x.tape(0, INTS, 5);
        x.tape(1, INTS, 3);
        x.tape(2, LONGS, 5);
        x.tape(3, INTS, 0);
        x.tape(4, INTS, 60);
        for (int i = 0; i < 5; i++) {
            x.item(0, i, 10 + i);
            x.item(1, i, 20 + i);
            x.item(2, i, 30 + i);
        }
        return x;
    }

    private static void row(BoxFlow x, int tape, long... want) {
        for (int i = 0; i < want.length; i++) {
            CHECK.due("tape " + tape + " item " + i, x.peek(tape, i), want[i]);
        }
        CHECK.due("tape " + tape + " ends", x.peek(tape, want.length), NO);
    }

    /** "PLACE: n, i or j is below 0, or beyond either's end": up to each end, and one beyond. */
    private static void shiftEnds() {
        Whole rows = new Whole(CHECK, "rows", EdgesTapesTest::rows);
        for (int i = 0; i <= 3; i++) {
            for (int j = 0; j <= 3; j++) {
                int n = Math.min(5 - i, 3 - j), from = i, to = j;
                CHECK.due("up to an end", rows().shift(0, i, 1, j, n), n);
                rows.refused("one beyond", x -> x.shift(0, from, 1, to, n + 1), PLACE);
            }
        }
        BoxFlow x = rows();
        CHECK.due("up to both ends", x.shift(0, 2, 1, 0, 3), 3);
        row(x, 1, 12, 13, 14);
        row(x, 0, 10, 11, 12, 13, 14);
        CHECK.due("the last to the last", x.shift(1, 2, 0, 4, 1), 1);
        row(x, 0, 10, 11, 12, 13, 14);
        CHECK.due("the first to the last", x.shift(1, 0, 0, 4, 1), 1);
        row(x, 0, 10, 11, 12, 13, 12);
        BoxFlow all = rows();
        all.item(4, 59, 77);
        all.tape(5, INTS, 60);
        CHECK.due("60", all.shift(4, 0, 5, 0, 60), 60);
        CHECK.due("the last of 60", all.peek(5, 59), 77);
        CHECK.due("61", all.shift(4, 0, 5, 0, 61), PLACE);
        CHECK.due("60 from 1 on", all.shift(4, 1, 5, 0, 60), PLACE);
        CHECK.due("60 to 1", all.shift(4, 0, 5, 1, 60), PLACE);
        CHECK.due("59 from 1 on", all.shift(4, 1, 5, 1, 59), 59);
    }

    /** None at all: from any place up to the end, not beyond it. */
    private static void shiftNothing() {
        BoxFlow x = rows();
        for (int i = -1; i <= 6; i++) {
            CHECK.due("none from " + i, x.shift(0, i, 1, 0, 0), i >= 0 && i <= 5 ? 0 : PLACE);
        }
        for (int j = -1; j <= 4; j++) {
            CHECK.due("none to " + j, x.shift(0, 0, 1, j, 0), j >= 0 && j <= 3 ? 0 : PLACE);
        }
        CHECK.due("none of none", x.shift(3, 0, 3, 0, 0), 0);
        CHECK.due("one of none", x.shift(3, 0, 0, 0, 1), PLACE);
        CHECK.due("one to none", x.shift(0, 0, 3, 0, 1), PLACE);
        CHECK.due("none from beyond none", x.shift(3, 1, 0, 0, 0), PLACE);
        row(x, 0, 10, 11, 12, 13, 14);
        row(x, 1, 20, 21, 22);
        row(x, 3);
    }

    /** "to another one (or the same) from j on, as they all were before". */
    private static void shiftAsTheyWere() {
        for (int i = 0; i <= 4; i++) {
            for (int j = 0; j <= 4; j++) {
                int n = 5 - Math.max(i, j);
                BoxFlow x = rows();
                CHECK.due("the same", x.shift(0, i, 0, j, n), n);
                long[] want = {10, 11, 12, 13, 14};
                for (int k = 0; k < n; k++) {
                    want[j + k] = 10 + i + k;
                }
                row(x, 0, want);
                CHECK.due("one beyond", x.shift(0, i, 0, j, n + 1), PLACE);
            }
        }
    }

    /** "CAST: of unlike sorts": each with each, also where there is nothing in the rows. */
    private static void shiftSorts() {
        for (int from = 0; from <= 4; from++) {
            for (int to = 0; to <= 4; to++) {
                BoxFlow x = new BoxFlow();
                x.tape(0, from, 2);
                x.tape(1, to, 2);
                x.item(0, 1, 1);
                CHECK.due(from + " to " + to, x.shift(0, 0, 1, 0, 2), from == to ? 2 : CAST);
                CHECK.due("its item", x.peek(1, 1), from == to ? 1 : 0);
                x.tape(0, from, 0);
                x.tape(1, to, 0);
                CHECK.due(from + " to " + to + ", none", x.shift(0, 0, 1, 0, 0), from == to ? 0 : CAST);
            }
        }
    }

    /** Where i and n, or j and n, together would wrap, it is beyond the end. */
    private static void shiftSums() {
        int[] far = {1, 5, 6, MAX - 1, MAX};
        BoxFlow x = rows();
        for (int a : far) {
            CHECK.due("n", x.shift(0, a, 1, 0, MAX), PLACE);
            CHECK.due("n", x.shift(0, 0, 1, a, MAX), PLACE);
            CHECK.due("i", x.shift(0, MAX, 1, 0, a), PLACE);
            CHECK.due("j", x.shift(0, 0, 1, MAX, a), PLACE);
            CHECK.due("below 0", x.shift(0, a, 1, 0, MIN), PLACE);
            CHECK.due("below 0", x.shift(0, MIN, 1, 0, a), PLACE);
            CHECK.due("below 0", x.shift(0, 0, 1, MIN, a), PLACE);
        }
        row(x, 0, 10, 11, 12, 13, 14);
        row(x, 1, 20, 21, 22);
    }

    /** "NONE: tapes; NOTHING; CAST: of unlike sorts; PLACE". */
    private static void shiftRefusals() {
        for (int tape : new int[] {MIN, -1, 6, MAX}) {
            SOME.refused("from tape " + tape, x -> x.shift(tape, 0, 0, 0, 1), NONE);
            SOME.refused("to tape " + tape, x -> x.shift(0, 0, tape, 0, 1), NONE);
            SOME.refused("NONE ahead of NOTHING", x -> x.shift(tape, 0, 5, 0, 1), NONE);
            SOME.refused("NONE ahead of NOTHING", x -> x.shift(5, 0, tape, 0, 1), NONE);
            SOME.refused("NONE ahead of PLACE", x -> x.shift(tape, -1, 0, 0, -1), NONE);
        }
        EMPTY.refused("nothing there", x -> x.shift(0, 0, 1, 0, 0), NOTHING);
        EMPTY.refused("nothing there", x -> x.shift(0, 0, 0, 0, 0), NOTHING);
        SOME.refused("nothing to take from", x -> x.shift(5, 0, 0, 0, 0), NOTHING);
        SOME.refused("nothing to come to", x -> x.shift(0, 0, 5, 0, 0), NOTHING);
        SOME.refused("NOTHING ahead of PLACE", x -> x.shift(5, -1, 0, 0, 1), NOTHING);
        SOME.refused("NOTHING ahead of PLACE", x -> x.shift(0, 0, 5, 0, -1), NOTHING);
        SOME.refused("unlike sorts", x -> x.shift(0, 0, 1, 0, 1), CAST);
        SOME.refused("unlike sorts", x -> x.shift(4, 0, 0, 0, 0), CAST);
        SOME.refused("CAST ahead of PLACE", x -> x.shift(0, -1, 1, 0, 1), CAST);
        SOME.refused("CAST ahead of PLACE", x -> x.shift(2, 0, 3, 0, 4), CAST);
        SOME.refused("CAST ahead of PLACE", x -> x.shift(0, 0, 1, 0, -1), CAST);
        SOME.refused("n -1", x -> x.shift(0, 0, 0, 0, -1), PLACE);
        SOME.refused("i -1", x -> x.shift(0, -1, 0, 0, 1), PLACE);
        SOME.refused("j -1", x -> x.shift(0, 0, 0, -1, 1), PLACE);
        FILLED.refused("unlike sorts", x -> x.shift(2, 0, 3, 0, 1), CAST);
        FILLED.refused("beyond the source", x -> x.shift(2, 1, 5, 0, 60), PLACE);
        FILLED.refused("beyond the target", x -> x.shift(2, 0, 5, 1, 60), PLACE);
    }

    /** "what is asked changes nothing". */
    private static void askingChangesNothing() {
        for (Whole state : new Whole[] {SOME, FILLED}) {
            for (int i = -1; i <= 3; i++) {
                int asked = i;
                state.asked("judge(1, 2, " + i + ")", x -> x.judge(1, 2, asked));
                state.asked("peek(2, " + i + ")", x -> x.peek(2, asked));
            }
        }
    }
}
