/**
 * Edges of promises 1 to 6 and 8 to 10, and of what ==== 1 says of BOXES, WIRES, TOKENS and TIMES: at each one the
 * last that is taken and the first that is refused. The comments are the document's sentences.
 */
public final class EdgesBoxesTest {
    private static final Check CHECK = new Check();
    private static final long NO = BoxFlow.NO;
    private static final int NONE = -1, BAD = -2, STATE = -3, FULL = -4;
    private static final int MIN = Integer.MIN_VALUE, MAX = Integer.MAX_VALUE;
    private static final Whole EMPTY = new Whole(CHECK, "none", States::none);
    private static final Whole SOME = new Whole(CHECK, "some", States::some);
    private static final Whole FILLED = new Whole(CHECK, "full", States::full);
    private static final Whole UNEVEN = new Whole(CHECK, "uneven", States::uneven);

    public static void main(String[] args) {
        noBoxes();
        calls();
        kinds();
        numbers();
        sixBoxes();
        boxRefusals();
        wireEnds();
        rates();
        eightWires();
        wireRefusals();
        tokenValues();
        tokenLimit();
        tokenRefusals();
        cuts();
        cutRefusals();
        signs();
        textLimit();
        feedRefusals();
        ofWhat();
        firedAtFirst();
        timesLots();
        timesAboveSixty();
        timesOfNone();
        canFireTakes();
        canFireRoom();
        canFireRoomOnItself();
        canFireEachWire();
        feedbackNone();
        feedbackItself();
        feedbackRound();
        wireBits();
        ofRefusals();
        aboutWhat();
        heldAtFirst();
        heldTillItStands();
        heldUneven();
        needEnds();
        needOthers();
        needNone();
        aboutRefusals();
        readPlaces();
        readRefusals();
        askingChangesNothing();
        CHECK.end("EdgesBoxesTest");
    }

    // ---- promise 1

    /** "No BOXES." */
    private static void noBoxes() {
        BoxFlow x = new BoxFlow();
        for (int what = 0; what <= 6; what++) {
            CHECK.due("new: count " + what, x.count(what), 0);
        }
        for (int what = 0; what <= 7; what++) {
            CHECK.due("new: of 0 " + what, x.of(0, what), NONE);
        }
        for (int what = 0; what <= 5; what++) {
            CHECK.due("new: told " + what, x.told(what), 0);
        }
        CHECK.due("new: wire", x.wire(0, 0, 1, 1), NONE);
        CHECK.due("new: fire", x.fire(0), NO);
        CHECK.due("new: when", x.when(0), -5);
        CHECK.due("new: period", x.period(9), 9);
        CHECK.due("new: plan", x.plan(0, 0), NONE);
        CHECK.due("new: plan a period", x.plan(3, 0), 1);
        CHECK.due("new: ends", x.ends(0), 0);
        CHECK.due("new: ends", x.ends(1), 0);
        CHECK.due("new: fits", x.fits(0, 0), NONE);
        CHECK.due("new: mean", x.mean(0), NO);
        CHECK.due("new: looked", x.looked(), -5);
        CHECK.due("new: graph", x.graph(), -10);
        CHECK.due("new: undo", x.undo(), STATE);
        CHECK.due("new: image", x.image(), 0);
        CHECK.due("new: undo an image of none", x.undo(), 0);
        for (int tape = 0; tape < 6; tape++) {
            CHECK.due("new: tape " + tape + " holds nothing", x.item(tape, 0, 0), -11);
        }
        CHECK.due("new: the first box", x.box(0, 0), 0);
    }

    /** "An object is used for at most 512 calls after it has been made": the last one of them is answered, too. */
    private static void calls() {
        BoxFlow x = new BoxFlow();
        x.box(4, 9);
        for (int call = 2; call <= 511; call++) {
            CHECK.due("call " + call, x.fire(0), 9L * (call - 2));
        }
        CHECK.due("call 512", x.fire(0), 9L * 510);
    }

    // ---- promise 2: box

    /** "each of a KIND (0 ADDS, 1 MULS, 2 LAST, 3 MOST, 4 COUNTS)"; "NONE: kind". */
    private static void kinds() {
        for (int kind = 0; kind <= 4; kind++) {
            BoxFlow x = new BoxFlow();
            CHECK.due("kind " + kind, x.box(kind, 0), 0);
            CHECK.due("it is kind " + kind, x.of(0, 0), kind);
        }
        for (int kind : new int[] {MIN, -2, -1, 5, 6, MAX}) {
            CHECK.due("kind " + kind, new BoxFlow().box(kind, 0), NONE);
        }
    }

    /** "with a number v (0 .. 9)"; "BAD: v". */
    private static void numbers() {
        for (int v = 0; v <= 9; v++) {
            BoxFlow x = new BoxFlow();
            CHECK.due("v " + v, x.box(3, v), 0);
            CHECK.due("it has v " + v, x.of(0, 1), v);
        }
        for (int v : new int[] {MIN, -2, -1, 10, 11, MAX}) {
            CHECK.due("v " + v, new BoxFlow().box(0, v), BAD);
        }
    }

    /** "BOXES 0 .. 5, as they come"; "FULL: 6". */
    private static void sixBoxes() {
        BoxFlow x = new BoxFlow();
        for (int b = 0; b < 6; b++) {
            CHECK.due("not there yet", x.of(b, 0), NONE);
            CHECK.due("box " + b, x.box(0, 0), b);
            CHECK.due("boxes", x.count(0), b + 1);
        }
        CHECK.due("the seventh", x.box(0, 0), FULL);
        CHECK.due("and again", x.box(4, 9), FULL);
        CHECK.due("boxes", x.count(0), 6);
        CHECK.due("box 6", x.of(6, 0), NONE);
    }

    /** "NONE: kind; BAD: v; FULL: 6." */
    private static void boxRefusals() {
        for (Whole state : new Whole[] {EMPTY, SOME, FILLED}) {
            state.refused("box(-1, 0)", x -> x.box(-1, 0), NONE);
            state.refused("box(5, 0)", x -> x.box(5, 0), NONE);
            state.refused("kind ahead of v", x -> x.box(5, 10), NONE);
            state.refused("kind ahead of v", x -> x.box(-1, -1), NONE);
            state.refused("box(0, -1)", x -> x.box(0, -1), BAD);
            state.refused("box(4, 10)", x -> x.box(4, 10), BAD);
        }
        FILLED.refused("box(0, 0)", x -> x.box(0, 0), FULL);
        FILLED.refused("box(4, 9)", x -> x.box(4, 9), FULL);
    }

    // ---- promise 3: wire

    /** "each from a BOX to a BOX (the same, too)"; "NONE: from, to". */
    private static void wireEnds() {
        BoxFlow x = Check.boxes(0, 0, 0, 0, 0, 0);
        CHECK.due("0 to 2", x.wire(0, 2, 1, 1), 0);
        CHECK.due("2 to 0", x.wire(2, 0, 1, 1), 1);
        CHECK.due("the same", x.wire(2, 2, 1, 1), 2);
        CHECK.due("from", x.about(0, 0), 0);
        CHECK.due("to", x.about(0, 1), 2);
        CHECK.due("from", x.about(2, 0), 2);
        CHECK.due("to", x.about(2, 1), 2);
        for (int box : new int[] {MIN, -2, -1, 3, 4, 5, 6, MAX}) {
            CHECK.due("from " + box, x.wire(box, 0, 1, 1), NONE);
            CHECK.due("to " + box, x.wire(0, box, 1, 1), NONE);
        }
        x.box(0, 0);
        CHECK.due("box 3 is there", x.wire(3, 3, 1, 1), 3);
    }

    /** "PUTS (1 .. 4), TAKES (1 .. 4)"; "BAD: puts, takes". */
    private static void rates() {
        for (int rate = 1; rate <= 4; rate++) {
            BoxFlow x = Check.boxes(0, 0);
            CHECK.due("puts " + rate, x.wire(0, 0, rate, 5 - rate), 0);
            CHECK.due("it puts", x.about(0, 2), rate);
            CHECK.due("it takes", x.about(0, 3), 5 - rate);
        }
        for (int rate : new int[] {MIN, -1, 0, 5, 6, MAX}) {
            BoxFlow x = Check.boxes(0, 0);
            CHECK.due("puts " + rate, x.wire(0, 0, rate, 1), BAD);
            CHECK.due("takes " + rate, x.wire(0, 0, 1, rate), BAD);
            CHECK.due("none came", x.count(1), 0);
        }
    }

    /** "WIRES 0 .. 7, as they come"; "FULL: 8 came": one that is cut has come, too. */
    private static void eightWires() {
        BoxFlow x = Check.boxes(0, 0);
        for (int w = 0; w < 8; w++) {
            CHECK.due("wire " + w, x.wire(0, 0, 1, 1), w);
            CHECK.due("came", x.count(1), w + 1);
        }
        CHECK.due("the ninth", x.wire(0, 0, 1, 1), FULL);
        x.cut(7);
        CHECK.due("behind a cut", x.wire(0, 0, 1, 1), FULL);
        for (int w = 0; w < 7; w++) {
            x.cut(w);
        }
        CHECK.due("none is there", x.count(2), 0);
        CHECK.due("behind all cuts", x.wire(0, 0, 1, 1), FULL);
        CHECK.due("came", x.count(1), 8);
    }

    /** "NONE: from, to; BAD: puts, takes; FULL: 8 came." */
    private static void wireRefusals() {
        EMPTY.refused("wire(0, 0, 1, 1)", x -> x.wire(0, 0, 1, 1), NONE);
        EMPTY.refused("box ahead of puts", x -> x.wire(0, 0, 0, 5), NONE);
        for (Whole state : new Whole[] {SOME, FILLED}) {
            state.refused("from", x -> x.wire(-1, 0, 1, 1), NONE);
            state.refused("to", x -> x.wire(0, 6, 1, 1), NONE);
            state.refused("from ahead of puts", x -> x.wire(6, 0, 0, 1), NONE);
            state.refused("to ahead of takes", x -> x.wire(0, -1, 1, 5), NONE);
            state.refused("puts 0", x -> x.wire(0, 0, 0, 1), BAD);
            state.refused("puts 5", x -> x.wire(0, 0, 5, 1), BAD);
            state.refused("takes 0", x -> x.wire(0, 0, 1, 0), BAD);
            state.refused("takes 5", x -> x.wire(0, 0, 4, 5), BAD);
        }
        SOME.refused("to 4 where there are 4", x -> x.wire(3, 4, 1, 1), NONE);
        FILLED.refused("the ninth", x -> x.wire(5, 5, 4, 4), FULL);
    }

    // ---- promise 4: token

    /** "TOKENS (ints, in a row)". */
    private static void tokenValues() {
        BoxFlow x = Check.boxes(0, 0);
        x.wire(0, 0, 1, 1);
        int[] values = {MIN, MIN + 1, -1, 0, 1, MAX - 1, MAX};
        for (int k = 0; k < values.length; k++) {
            CHECK.due("how many", x.token(0, values[k]), k + 1);
        }
        for (int k = 0; k < values.length; k++) {
            CHECK.due("token " + k, x.read(0, k), values[k]);
        }
    }

    /** "TOKENS (ints, in a row; 99 at most)"; "FULL: 99". */
    private static void tokenLimit() {
        BoxFlow x = Check.boxes(0, 0, 0, 0);
        x.wire(0, 1, 1, 1);
        x.wire(0, 0, 1, 1);
        for (int k = 1; k <= 99; k++) {
            CHECK.due("token " + k, x.token(0, k), k);
        }
        CHECK.due("the hundredth", x.token(0, 100), FULL);
        CHECK.due("how many", x.about(0, 4), 99);
        CHECK.due("another wire has room", x.token(1, 7), 1);
        CHECK.due("one is taken", x.fire(1), 1);
        CHECK.due("room for one", x.token(0, 100), 99);
        CHECK.due("and no more", x.token(0, 101), FULL);
        CHECK.due("the earliest", x.read(0, 0), 2);
        CHECK.due("the latest", x.read(0, 98), 100);
    }

    /** "NONE; FULL: 99." */
    private static void tokenRefusals() {
        EMPTY.refused("token(0, 1)", x -> x.token(0, 1), NONE);
        for (int wire : new int[] {MIN, -1, 8, MAX}) {
            SOME.refused("token(" + wire + ", 1)", x -> x.token(wire, 1), NONE);
            FILLED.refused("token(" + wire + ", 1)", x -> x.token(wire, 1), NONE);
        }
        SOME.refused("a cut wire", x -> x.token(4, 1), NONE);
        SOME.refused("a wire that hasn't come", x -> x.token(5, 1), NONE);
        FILLED.refused("99 are there", x -> x.token(0, 1), FULL);
    }

    // ---- promise 5: cut

    /** "or CUT (it is a WIRE no more; its number isn't given again)"; "how many TOKENS it had". */
    private static void cuts() {
        BoxFlow x = Check.boxes(0, 0);
        x.wire(0, 0, 1, 1);
        x.wire(0, 0, 2, 2);
        x.wire(0, 0, 3, 3);
        CHECK.due("it had none", x.cut(0), 0);
        x.token(1, 5);
        CHECK.due("it had one", x.cut(1), 1);
        States.fill(x, 2, 99);
        CHECK.due("it had 99", x.cut(2), 99);
        for (int wire = 0; wire < 3; wire++) {
            for (int what = 0; what <= 6; what++) {
                CHECK.due("no wire " + wire, x.about(wire, what), NONE);
            }
            CHECK.due("no token", x.token(wire, 1), NONE);
            CHECK.due("nothing to read", x.read(wire, 0), NO);
            CHECK.due("no wire on", x.on(0, wire), NONE);
            CHECK.due("no wire then", x.then(0, wire, 0), NO);
            CHECK.due("none to see", x.see(wire, 0, 0), NONE);
            CHECK.due("no odds", x.odds(wire, 0), NO);
            CHECK.due("none to plan", x.plan(1, wire), NONE);
            CHECK.due("none to book", x.book(wire, 0), NONE);
            CHECK.due("none to judge", x.judge(wire, 0, 0), NONE);
            CHECK.due("cut again", x.cut(wire), NONE);
        }
        CHECK.due("tokens", x.told(5), 0);
        CHECK.due("no wires to it", x.of(0, 6), 0);
        CHECK.due("no wires from it", x.of(0, 7), 0);
        CHECK.due("the next number", x.wire(0, 0, 1, 1), 3);
    }

    /** "NONE." */
    private static void cutRefusals() {
        EMPTY.refused("cut(0)", x -> x.cut(0), NONE);
        for (int wire : new int[] {MIN, -1, 8, MAX}) {
            SOME.refused("cut(" + wire + ")", x -> x.cut(wire), NONE);
            FILLED.refused("cut(" + wire + ")", x -> x.cut(wire), NONE);
        }
        SOME.refused("cut a cut one", x -> x.cut(4), NONE);
        SOME.refused("cut one that hasn't come", x -> x.cut(5), NONE);
    }

    // ---- promise 6: feed

    /** "A sign (0 .. 127)"; "BAD". */
    private static void signs() {
        BoxFlow x = new BoxFlow();
        int[] taken = {0, 1, 126, 127};
        for (int k = 0; k < taken.length; k++) {
            CHECK.due("sign " + taken[k], x.feed(taken[k]), k + 1);
        }
        for (int sign : new int[] {MIN, -2, -1, 128, 129, 255, 256 + '0', MAX}) {
            CHECK.due("sign " + sign, x.feed(sign), BAD);
        }
        CHECK.due("bytes", x.count(6), 4);
    }

    /** "THE TEXT (bytes, 100 at most)"; "FULL". */
    private static void textLimit() {
        BoxFlow x = Check.boxes(0, 0, 0, 0);
        CHECK.due("99 bytes", Check.feed(x, States.LONG.substring(0, 99)), 99);
        CHECK.due("byte 100", x.feed('3'), 100);
        CHECK.due("byte 101", x.feed(';'), FULL);
        CHECK.due("bytes", x.count(6), 100);
        CHECK.due("a graph of 100 bytes", x.graph(), 4);
        CHECK.due("its last takes", x.about(3, 3), 3);
        CHECK.due("empty", x.count(6), 0);
        CHECK.due("room again", x.feed('0'), 1);
    }

    /** "BAD; FULL." */
    private static void feedRefusals() {
        for (Whole state : new Whole[] {EMPTY, SOME, FILLED}) {
            state.refused("feed(-1)", x -> x.feed(-1), BAD);
            state.refused("feed(128)", x -> x.feed(128), BAD);
        }
        FILLED.refused("feed(0)", x -> x.feed(0), FULL);
        FILLED.refused("feed(127)", x -> x.feed(127), FULL);
    }

    // ---- promise 8: of

    private static void ofWhat() {
        BoxFlow x = Check.boxes(2, 8);
        int[] want = {2, 8, 0, 1, 1, 0, 0, 0};
        for (int what = 0; what <= 7; what++) {
            CHECK.due("what " + what, x.of(0, what), want[what]);
        }
        for (int what : new int[] {MIN, -2, -1, 8, 9, MAX}) {
            CHECK.due("what " + what, x.of(0, what), NONE);
        }
    }

    /** "FIRED (0 at first)"; "FIRED is 1 more": the step to 9999 is in EdgesFiringTest. */
    private static void firedAtFirst() {
        BoxFlow x = Check.boxes(0, 0, 0, 0);
        CHECK.due("at first", x.of(0, 2), 0);
        x.fire(0);
        CHECK.due("once", x.of(0, 2), 1);
        CHECK.due("the other", x.of(1, 2), 0);
    }

    /** "(BOXES that no WIRES hold together: each lot by itself the least)". */
    private static void timesLots() {
        BoxFlow x = Check.boxes(0, 0, 0, 0, 0, 0, 0, 0, 0, 0);
        times(x, 1, 1, 1, 1, 1);
        x.wire(0, 1, 2, 4);
        x.wire(2, 3, 3, 1);
        times(x, 2, 1, 1, 3, 1);
        x.wire(1, 2, 1, 1);
        times(x, 2, 1, 1, 3, 1);
        x.wire(4, 3, 4, 3);
        times(x, 8, 4, 4, 12, 9);
        x.cut(2);
        times(x, 2, 1, 4, 12, 9);
        x.cut(1);
        times(x, 2, 1, 1, 4, 3);
    }

    private static void times(BoxFlow x, int... want) {
        int together = 0;
        for (int b = 0; b < want.length; b++) {
            CHECK.due("times of " + b, x.of(b, 3), want[b]);
            together += want[b];
        }
        CHECK.due("times together", x.told(1), together);
    }

    private static void allUneven(BoxFlow x, int boxes) {
        CHECK.due("uneven", x.told(0), 1);
        for (int b = 0; b < boxes; b++) {
            CHECK.due("times of " + b, x.of(b, 3), -5);
        }
        for (int what = 1; what <= 4; what++) {
            CHECK.due("told " + what, x.told(what), -5);
        }
        CHECK.due("period", x.period(1), STATE);
        CHECK.due("when", x.when(0), -5);
    }

    /**
     * "It is UNEVEN, if there are none such, or one is above 60." All PUTS and TAKES are made of 2 and 3, so of the
     * numbers about 60 only 54 and 64 can come.
     */
    private static void timesAboveSixty() {
        BoxFlow below = Check.boxes(0, 0, 0, 0, 0, 0, 0, 0, 0, 0, 0, 0);
        Check.graph(below, "0:1>1:3;1:1>2:3;2:1>3:3;3:1>4:2");
        times(below, 54, 18, 6, 2, 1, 1);
        BoxFlow above = Check.boxes(0, 0, 0, 0, 0, 0, 0, 0, 0, 0, 0, 0);
        Check.graph(above, "0:1>1:4;1:1>2:4;2:1>3:4");
        allUneven(above, 6);
        above.cut(2);
        times(above, 16, 4, 1, 1, 1, 1);
        // Two of 48 make no 96, and 48 to 64 is one wire.
        BoxFlow behind = Check.boxes(0, 0, 0, 0, 0, 0, 0, 0, 0, 0, 0, 0);
        Check.graph(behind, "0:4>1:1;1:4>2:1;2:3>3:1;3:1>4:1;4:4>5:4");
        times(behind, 1, 4, 16, 48, 48, 48);
        behind.cut(4);
        Check.graph(behind, "4:4>5:3");
        allUneven(behind, 6);
        // The last one by number is above.
        BoxFlow last = Check.boxes(0, 0, 0, 0, 0, 0, 0, 0, 0, 0, 0, 0);
        Check.graph(last, "5:1>4:4;4:1>3:4;3:1>2:4");
        allUneven(last, 6);
    }

    /** "by which on each WIRE as many TOKENS are put as taken"; "if there are none such". */
    private static void timesOfNone() {
        BoxFlow x = Check.boxes(0, 0, 0, 0, 0, 0);
        x.wire(2, 2, 3, 4);
        allUneven(x, 3);
        x.cut(0);
        times(x, 1, 1, 1);
        x.wire(2, 2, 4, 4);
        times(x, 1, 1, 1);
        x.wire(0, 1, 1, 2);
        x.wire(0, 1, 2, 4);
        times(x, 2, 1, 1);
        x.wire(0, 1, 2, 3);
        allUneven(x, 3);
        x.cut(4);
        x.wire(1, 0, 4, 2);
        times(x, 2, 1, 1);
        x.wire(1, 0, 2, 4);
        allUneven(x, 3);
    }

    /** "A BOX CAN FIRE, if each WIRE to it has TAKES TOKENS or more". */
    private static void canFireTakes() {
        for (int takes = 1; takes <= 4; takes++) {
            BoxFlow x = Check.boxes(0, 0, 0, 0);
            x.wire(0, 1, 1, takes);
            for (int tokens = 0; tokens <= takes + 1; tokens++) {
                CHECK.due(tokens + " of " + takes, x.of(1, 4), tokens >= takes ? 1 : 0);
                x.token(0, 0);
            }
        }
    }

    /** "and each WIRE from it has room behind that (99)". */
    private static void canFireRoom() {
        for (int puts = 1; puts <= 4; puts++) {
            BoxFlow x = Check.boxes(0, 0, 0, 0);
            x.wire(0, 1, puts, 1);
            States.fill(x, 0, 98 - puts);
            CHECK.due("room for one more than " + puts, x.of(0, 4), 1);
            x.token(0, 0);
            CHECK.due("room for " + puts, x.of(0, 4), 1);
            x.token(0, 0);
            CHECK.due("room for one less than " + puts, x.of(0, 4), 0);
            CHECK.due("it can't", x.fire(0), NO);
            x.fire(1);
            CHECK.due("it can", x.fire(0), 0);
            CHECK.due("full", x.about(0, 4), 99);
        }
    }

    /** "has room behind that": behind what is taken, where a wire goes to the same box. */
    private static void canFireRoomOnItself() {
        for (int puts = 1; puts <= 4; puts++) {
            for (int takes = 1; takes <= 4; takes++) {
                BoxFlow x = Check.boxes(0, 0);
                x.wire(0, 0, puts, takes);
                int most = Math.min(99, 99 + takes - puts);
                States.fill(x, 0, most - 1);
                CHECK.due(puts + " " + takes + " below", x.of(0, 4), 1);
                x.token(0, 0);
                CHECK.due(puts + " " + takes + " at", x.of(0, 4), 1);
                CHECK.due("above", x.token(0, 0), most == 99 ? FULL : most + 1);
                CHECK.due(puts + " " + takes + " above", x.of(0, 4), most == 99 ? 1 : 0);
            }
        }
    }

    /** "each WIRE to it"; "each WIRE from it"; a wire that is cut doesn't count. */
    private static void canFireEachWire() {
        BoxFlow x = Check.boxes(0, 0, 0, 0);
        for (int w = 0; w < 8; w++) {
            x.wire(0, 1, 1, 1);
        }
        for (int w = 0; w < 8; w++) {
            CHECK.due("wires without tokens", x.of(1, 4), 0);
            x.token(w, 0);
        }
        CHECK.due("all have one", x.of(1, 4), 1);
        States.fill(x, 7, 98);
        CHECK.due("the last one is full", x.of(0, 4), 0);
        CHECK.due("it doesn't go to box 0", x.of(1, 4), 1);
        x.cut(7);
        CHECK.due("it is cut", x.of(0, 4), 1);
        x.fire(1);
        CHECK.due("nothing is left", x.of(1, 4), 0);
        for (int w = 0; w < 7; w++) {
            x.cut(w);
        }
        CHECK.due("no wires", x.of(1, 4), 1);
    }

    /** "FEEDBACK of a BOX: those BOXES, as bits, to which one comes from it by WIRES, and from which one comes back". */
    private static void feedbackNone() {
        BoxFlow x = Check.boxes(0, 0, 0, 0, 0, 0, 0, 0, 0, 0, 0, 0);
        for (int b = 0; b < 6; b++) {
            CHECK.due("no wires", x.of(b, 5), 0);
        }
        Check.graph(x, "0:1>1:1;1:1>2:1;0:1>2:1;3:1>2:1");
        for (int b = 0; b < 6; b++) {
            CHECK.due("no way back", x.of(b, 5), 0);
        }
    }

    /** "(itself, too, if it has a WIRE to itself, or there are others)". */
    private static void feedbackItself() {
        BoxFlow x = Check.boxes(0, 0, 0, 0, 0, 0, 0, 0, 0, 0, 0, 0);
        x.wire(5, 5, 1, 1);
        CHECK.due("a wire to itself", x.of(5, 5), 32);
        x.wire(0, 5, 1, 1);
        CHECK.due("another comes to it", x.of(5, 5), 32);
        CHECK.due("it doesn't come back", x.of(0, 5), 0);
        x.wire(5, 0, 1, 1);
        CHECK.due("others, and itself", x.of(5, 5), 33);
        CHECK.due("others, and itself", x.of(0, 5), 33);
        x.cut(0);
        CHECK.due("without its own wire", x.of(5, 5), 33);
        x.cut(2);
        CHECK.due("none", x.of(5, 5), 0);
    }

    /** The longest way there is, with the wires from the last one to the first, and from the first one to the last. */
    private static void feedbackRound() {
        BoxFlow up = Check.boxes(0, 0, 0, 0, 0, 0, 0, 0, 0, 0, 0, 0);
        BoxFlow down = Check.boxes(0, 0, 0, 0, 0, 0, 0, 0, 0, 0, 0, 0);
        for (int b = 0; b < 5; b++) {
            up.wire(b, b + 1, 1, 1);
            down.wire(b + 1, b, 1, 1);
        }
        for (int b = 0; b < 6; b++) {
            CHECK.due("a wire is missing", up.of(b, 5), 0);
            CHECK.due("a wire is missing", down.of(b, 5), 0);
        }
        up.wire(5, 0, 1, 1);
        down.wire(0, 5, 1, 1);
        for (int b = 0; b < 6; b++) {
            CHECK.due("all six", up.of(b, 5), 63);
            CHECK.due("all six", down.of(b, 5), 63);
        }
    }

    /** "6 which WIRES go to it, 7 come from it (bits)". */
    private static void wireBits() {
        BoxFlow x = Check.boxes(0, 0, 0, 0);
        for (int w = 0; w < 8; w++) {
            CHECK.due("to 1", x.of(1, 6), (1 << w) - 1);
            CHECK.due("from 0", x.of(0, 7), (1 << w) - 1);
            x.wire(0, 1, 1, 1);
        }
        CHECK.due("all to 1", x.of(1, 6), 255);
        CHECK.due("all from 0", x.of(0, 7), 255);
        CHECK.due("none to 0", x.of(0, 6), 0);
        CHECK.due("none from 1", x.of(1, 7), 0);
        x.cut(0);
        x.cut(7);
        CHECK.due("without those that are cut", x.of(1, 6), 126);
        CHECK.due("without those that are cut", x.of(0, 7), 126);
    }

    /** "NONE." */
    private static void ofRefusals() {
        for (int what = -1; what <= 8; what++) {
            int asked = what;
            EMPTY.refused("of(0, " + what + ")", x -> x.of(0, asked), NONE);
            SOME.refused("of(-1, " + what + ")", x -> x.of(-1, asked), NONE);
            SOME.refused("of(4, " + what + ")", x -> x.of(4, asked), NONE);
            FILLED.refused("of(6, " + what + ")", x -> x.of(6, asked), NONE);
            UNEVEN.refused("of(4, " + what + ")", x -> x.of(4, asked), NONE);
        }
        SOME.refused("of(0, -1)", x -> x.of(0, -1), NONE);
        SOME.refused("of(0, 8)", x -> x.of(0, 8), NONE);
        UNEVEN.refused("of(0, 3)", x -> x.of(0, 3), -5);
    }

    // ---- promise 9: about

    private static void aboutWhat() {
        BoxFlow x = Check.boxes(0, 0, 0, 0);
        x.wire(1, 0, 3, 4);
        // Held: box 1 fires twice, then box 0 can fire: 3, 6, 2, 5, 1, 4, 0.
        int[] want = {1, 0, 3, 4, 0, 6, 0};
        for (int what = 0; what <= 6; what++) {
            CHECK.due("what " + what, x.about(0, what), want[what]);
        }
        for (int what : new int[] {MIN, -2, -1, 7, 8, MAX}) {
            CHECK.due("what " + what, x.about(0, what), NONE);
        }
    }

    /** "HELD by a WIRE: the most TOKENS it has at any time in a PERIOD from now, at first, too (behind each FIRING". */
    private static void heldAtFirst() {
        BoxFlow x = Check.boxes(0, 0, 0, 0);
        x.wire(0, 1, 2, 1);
        CHECK.due("behind the first firing", x.about(0, 5), 2);
        Check.tokens(x, 0, 1, 1, 1);
        CHECK.due("3 at first, and 2", x.about(0, 5), 5);
        BoxFlow back = Check.boxes(0, 0, 0, 0);
        back.wire(1, 0, 1, 1);
        CHECK.due("none at first", back.about(0, 5), 1);
        back.token(0, 7);
        CHECK.due("one at first: taken ahead of the next", back.about(0, 5), 1);
        States.fill(back, 0, 98);
        CHECK.due("99 at first", back.about(0, 5), 99);
        BoxFlow full = Check.boxes(0, 0, 0, 0);
        full.wire(0, 1, 1, 1);
        States.fill(full, 0, 98);
        CHECK.due("98 at first, and 1", full.about(0, 5), 99);
        full.token(0, 0);
        CHECK.due("99 at first, no room", full.about(0, 5), 99);
        BoxFlow same = Check.boxes(0, 0);
        same.wire(0, 0, 4, 4);
        States.fill(same, 0, 4);
        CHECK.due("on itself it is looked at behind the firing", same.about(0, 5), 4);
    }

    /** "till it STANDS, if it does)". */
    private static void heldTillItStands() {
        BoxFlow x = Check.boxes(0, 0, 0, 0, 0, 0);
        x.wire(0, 1, 2, 1);
        x.wire(2, 0, 1, 1);
        x.wire(1, 2, 1, 2);
        CHECK.due("stands at once", x.told(2), 1);
        CHECK.due("nothing was put", x.about(0, 5), 0);
        x.wire(1, 1, 1, 1);
        x.token(1, 0);
        CHECK.due("stands behind one", x.told(2), 1);
        CHECK.due("two were put", x.about(0, 5), 2);
        CHECK.due("at first", x.about(1, 5), 1);
        CHECK.due("never came", x.about(2, 5), 0);
        CHECK.due("hold", x.told(3), 3);
        x.token(3, 0);
        CHECK.due("goes", x.told(2), 0);
        CHECK.due("hold", x.told(3), 2 + 1 + 2 + 1);
    }

    /** "5 HELD (-5: UNEVEN)". */
    private static void heldUneven() {
        BoxFlow x = Check.boxes(0, 0, 0, 0);
        x.wire(0, 1, 1, 1);
        x.wire(1, 1, 1, 2);
        CHECK.due("uneven", x.about(0, 5), -5);
        CHECK.due("uneven", x.about(1, 5), -5);
        CHECK.due("how many it has all the same", x.about(0, 4), 0);
        x.cut(1);
        CHECK.due("even", x.about(0, 5), 1);
    }

    /** A round in which the box behind wire 0, which takes so many, has to fire five times ahead of all others. */
    static BoxFlow fiveTimes(int rate) {
        BoxFlow x = Check.boxes(0, 0, 0, 0, 0, 0, 0, 0, 0, 0);
        Check.graph(x, "0:" + rate + ">1:" + rate + ";1:2>2:3;2:1>3:3;3:3>4:1;4:3>0:2");
        return x;
    }

    /** "NEED of a WIRE: how many TOKENS 0 .. 20, at least, it must have"; "(-5: .. it STANDS by all of these)". */
    private static void needEnds() {
        BoxFlow none = Check.boxes(0, 0, 0, 0);
        none.wire(0, 1, 4, 1);
        CHECK.due("0", none.about(0, 6), 0);
        for (int takes = 1; takes <= 4; takes++) {
            BoxFlow x = Check.boxes(0, 0);
            x.wire(0, 0, takes, takes);
            CHECK.due("on itself", x.about(0, 6), takes);
        }
        CHECK.due("15", fiveTimes(3).about(0, 6), 15);
        CHECK.due("20", fiveTimes(4).about(0, 6), 20);
        stands("19 of 20", fiveTimes(4), 0, 19, 1);
        stands("20 of 20", fiveTimes(4), 0, 20, 0);
        CHECK.due("21 would be needed", twentyOne().about(3, 6), -5);
        stands("20 of 21", twentyOne(), 3, 20, 1);
        stands("21 of 21", twentyOne(), 3, 21, 0);
    }

    private static BoxFlow twentyOne() {
        BoxFlow x = Check.boxes(0, 0, 0, 0, 0, 0, 0, 0, 0, 0, 0, 0);
        Check.graph(x, "0:4>1:1;1:2>2:3;2:3>3:1;3:2>4:3;4:3>5:4;5:1>0:4");
        return x;
    }

    private static void stands(String what, BoxFlow x, int wire, int tokens, int want) {
        States.fill(x, wire, tokens);
        CHECK.due(what, x.told(2), want);
    }

    /** "(others as now)": its own tokens of now don't matter, the others' do. */
    private static void needOthers() {
        BoxFlow x = Check.boxes(0, 0, 0, 0);
        x.wire(0, 1, 1, 1);
        x.wire(1, 0, 1, 1);
        CHECK.due("nothing on the other", x.about(0, 6), 1);
        x.token(1, 5);
        CHECK.due("one on the other", x.about(0, 6), 0);
        CHECK.due("its own doesn't matter", x.about(1, 6), 1);
        States.fill(x, 1, 98);
        CHECK.due("99 of its own don't matter", x.about(1, 6), 1);
        CHECK.due("99 are left", x.about(1, 4), 99);
        States.fill(x, 0, 99);
        CHECK.due("both are full", x.told(2), 1);
        CHECK.due("without its own the other one goes", x.about(0, 6), 0);
    }

    /** "(-5: UNEVEN, or it STANDS by all of these)". */
    private static void needNone() {
        BoxFlow x = Check.boxes(0, 0, 0, 0);
        x.wire(0, 1, 1, 1);
        x.wire(1, 1, 1, 1);
        CHECK.due("another one stands", x.about(0, 6), -5);
        x.token(1, 0);
        CHECK.due("it goes", x.about(0, 6), 0);
        x.wire(1, 1, 2, 1);
        x.token(2, 0);
        CHECK.due("uneven", x.about(0, 6), -5);
        CHECK.due("uneven", x.about(1, 6), -5);
    }

    /** "NONE." */
    private static void aboutRefusals() {
        for (int what = -1; what <= 7; what++) {
            int asked = what;
            EMPTY.refused("about(0, " + what + ")", x -> x.about(0, asked), NONE);
            SOME.refused("about(-1, " + what + ")", x -> x.about(-1, asked), NONE);
            SOME.refused("about a cut one " + what, x -> x.about(4, asked), NONE);
            SOME.refused("about(5, " + what + ")", x -> x.about(5, asked), NONE);
            FILLED.refused("about(8, " + what + ")", x -> x.about(8, asked), NONE);
        }
        SOME.refused("about(0, -1)", x -> x.about(0, -1), NONE);
        SOME.refused("about(0, 7)", x -> x.about(0, 7), NONE);
        UNEVEN.refused("about(0, 7)", x -> x.about(0, 7), NONE);
    }

    // ---- promise 10: read

    /** "TOKEN k of a WIRE (0 the earliest). NO." */
    private static void readPlaces() {
        BoxFlow x = Check.boxes(0, 0);
        x.wire(0, 0, 1, 1);
        CHECK.due("none there", x.read(0, 0), NO);
        x.token(0, 70);
        CHECK.due("the earliest", x.read(0, 0), 70);
        CHECK.due("behind the latest", x.read(0, 1), NO);
        CHECK.due("ahead of the earliest", x.read(0, -1), NO);
        States.fill(x, 0, 98);
        CHECK.due("the latest of 99", x.read(0, 98), 197);
        CHECK.due("behind 99", x.read(0, 99), NO);
        for (int k : new int[] {MIN, -99, 100, MAX}) {
            CHECK.due("token " + k, x.read(0, k), NO);
        }
        // The row goes on at its beginning when tokens were taken and others came.
        x.fire(0);
        CHECK.due("the earliest", x.read(0, 0), 100);
        CHECK.due("one ahead of the latest", x.read(0, 97), 197);
        CHECK.due("the latest", x.read(0, 98), 70);
        CHECK.due("behind 99", x.read(0, 99), NO);
    }

    private static void readRefusals() {
        EMPTY.refused("read(0, 0)", x -> x.read(0, 0), NO);
        for (int wire : new int[] {MIN, -1, 4, 5, 8, MAX}) {
            SOME.refused("read(" + wire + ", 0)", x -> x.read(wire, 0), NO);
        }
        SOME.refused("read(1, 1)", x -> x.read(1, 1), NO);
        SOME.refused("read(1, -1)", x -> x.read(1, -1), NO);
        FILLED.refused("read(0, 99)", x -> x.read(0, 99), NO);
        FILLED.refused("read(8, 0)", x -> x.read(8, 0), NO);
    }

    /** "what is asked changes nothing". */
    private static void askingChangesNothing() {
        for (Whole state : new Whole[] {SOME, FILLED, UNEVEN}) {
            for (int what = 0; what <= 7; what++) {
                int asked = what;
                state.asked("of(1, " + what + ")", x -> x.of(1, asked));
                state.asked("about(1, " + what + ")", x -> x.about(1, asked));
            }
            state.asked("read(1, 0)", x -> x.read(1, 0));
        }
    }
}
