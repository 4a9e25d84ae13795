/** Edges of promises 21 to 24 and 26 to 28: the PLAN, ENDS, the BOOK, THE IMAGE, how many there are. */
public final class EdgesPlansTest {
    private static final Check CHECK = new Check();
    private static final int NONE = -1, BAD = -2, STATE = -3, FULL = -4, NO_END = -10001;
    private static final int FIRES = 0, EMPTIES = 1, ZEROES = 2, PERIOD = 3;
    private static final int MIN = Integer.MIN_VALUE, MAX = Integer.MAX_VALUE;
    private static final Whole EMPTY = new Whole(CHECK, "none", States::none);
    private static final Whole SOME = new Whole(CHECK, "some", States::some);
    private static final Whole FILLED = new Whole(CHECK, "full", States::full);
    private static final Whole UNEVEN = new Whole(CHECK, "uneven", States::uneven);
    private static final Whole STANDING = new Whole(CHECK, "standing", States::standing);

    public static void main(String[] args) {
        planWhat();
        planNumbers();
        planTenRows();
        planEmptyThen();
        planRefusals();
        endsOfNoRows();
        endsFires();
        endsEmpties();
        endsZeroes();
        endsPeriod();
        endsOfTenRows();
        endsCut();
        endsWraps();
        endsRefusals();
        bookNumbers();
        bookEightRows();
        bookEmptyThen();
        bookRefusals();
        lookedRows();
        lookedAtEdges();
        lookedCut();
        imageOfNothing();
        undoWithoutImage();
        undoBoxesAndWires();
        undoRows();
        undoTwice();
        imageAnew();
        imageOfFull();
        undoLeavesTheRest();
        counts();
        countRefusals();
        askingChangesNothing();
        CHECK.end("EdgesPlansTest");
    }

    /** Box 0 adds 1 to what goes round, 5 at first; box 1 counts by itself. */
    private static BoxFlow round() {
        BoxFlow x = Check.boxes(0, 1, 4, 2);
        x.wire(0, 0, 1, 1);
        x.token(0, 5);
        return x;
    }

    // ---- promise 21: plan

    /** "what goes (0 .., 1 .., 2 .., 3 ..)"; "NONE: what (0 .. 3)". */
    private static void planWhat() {
        for (int what = 0; what <= 3; what++) {
            CHECK.due("what " + what, round().plan(what, 0), 1);
        }
        for (int what : new int[] {MIN, -3, -2, 4, 5, MAX}) {
            BoxFlow x = round();
            CHECK.due("what " + what, x.plan(what, 0), NONE);
            CHECK.due("none came", x.count(4), 0);
        }
    }

    /** "box (by 0, 2), wire (by 1; by 3 n does not matter)". */
    private static void planNumbers() {
        BoxFlow x = round();
        x.wire(0, 1, 1, 1);
        x.wire(1, 1, 1, 1);
        x.cut(1);
        int[] numbers = {MIN, -2, -1, 0, 1, 2, 3, 6, 8, MAX};
        for (int n : numbers) {
            x.plan(-1, 0);
            boolean box = n == 0 || n == 1, wire = n == 0 || n == 2;
            CHECK.due("box " + n, x.plan(FIRES, n), box ? 1 : NONE);
            CHECK.due("box " + n, x.plan(ZEROES, n), box ? 2 : NONE);
            CHECK.due("wire " + n, x.plan(EMPTIES, n), wire ? x.count(4) : NONE);
            x.plan(-1, 0);
            CHECK.due("n does not matter", x.plan(PERIOD, n), 1);
        }
    }

    /** "10 rows at most"; "FULL: 10". */
    private static void planTenRows() {
        BoxFlow x = round();
        for (int r = 1; r <= 10; r++) {
            CHECK.due("row " + r, x.plan(FIRES, 0), r);
            CHECK.due("rows", x.count(4), r);
        }
        for (int what = 0; what <= 3; what++) {
            CHECK.due("the eleventh", x.plan(what, 0), FULL);
        }
        CHECK.due("rows", x.count(4), 10);
        CHECK.due("ten went", x.ends(1), 15);
    }

    /** "(what -1: it is empty then, 0)": whatever n is, and however many rows there are. */
    private static void planEmptyThen() {
        for (int n : new int[] {MIN, -1, 0, 9, MAX}) {
            BoxFlow x = round();
            CHECK.due("none there", x.plan(-1, n), 0);
            for (int r = 0; r < 10; r++) {
                x.plan(PERIOD, 0);
            }
            CHECK.due("ten there", x.plan(-1, n), 0);
            CHECK.due("none", x.count(4), 0);
            CHECK.due("as now", x.ends(1), 5);
            CHECK.due("room again", x.plan(FIRES, 0), 1);
        }
        CHECK.due("a new object", new BoxFlow().plan(-1, 0), 0);
    }

    /** "NONE: what (0 .. 3), box .., wire ..; FULL: 10." */
    private static void planRefusals() {
        for (int what : new int[] {0, 1, 2}) {
            EMPTY.refused("plan(" + what + ", 0)", x -> x.plan(what, 0), NONE);
        }
        for (Whole state : new Whole[] {EMPTY, SOME, FILLED}) {
            state.refused("plan(-2, 0)", x -> x.plan(-2, 0), NONE);
            state.refused("plan(4, 0)", x -> x.plan(4, 0), NONE);
            state.refused("plan(4, -1)", x -> x.plan(4, -1), NONE);
            state.refused("plan(0, 6)", x -> x.plan(0, 6), NONE);
            state.refused("plan(0, -1)", x -> x.plan(0, -1), NONE);
            state.refused("plan(1, 8)", x -> x.plan(1, 8), NONE);
            state.refused("plan(1, -1)", x -> x.plan(1, -1), NONE);
            state.refused("plan(2, 6)", x -> x.plan(2, 6), NONE);
            state.refused("plan(2, -1)", x -> x.plan(2, -1), NONE);
        }
        SOME.refused("no box 4", x -> x.plan(0, 4), NONE);
        SOME.refused("no box 4", x -> x.plan(2, 4), NONE);
        SOME.refused("a cut wire", x -> x.plan(1, 4), NONE);
        SOME.refused("a wire that hasn't come", x -> x.plan(1, 5), NONE);
        FILLED.refused("plan(0, 5)", x -> x.plan(0, 5), FULL);
        FILLED.refused("plan(1, 7)", x -> x.plan(1, 7), FULL);
        FILLED.refused("plan(2, 5)", x -> x.plan(2, 5), FULL);
        FILLED.refused("plan(3, -1)", x -> x.plan(3, -1), FULL);
    }

    // ---- promise 22: ends

    private static void end(String what, BoxFlow x, int tokens, int together) {
        CHECK.due(what + ": how many", x.ends(0), tokens);
        CHECK.due(what + ": together", x.ends(1), together);
    }

    private static void endsOfNoRows() {
        end("no boxes", new BoxFlow(), 0, 0);
        end("no rows", round(), 1, 5);
        BoxFlow x = round();
        x.cut(0);
        end("no wires", x, 0, 0);
        BoxFlow most = Check.boxes(0, 0);
        for (int w = 0; w < 4; w++) {
            most.wire(0, 0, 1, 1);
            for (int k = 0; k < 99; k++) {
                most.token(w, 1);
            }
        }
        end("396", most, 396, 396);
    }

    /** "0 BOX n FIRES, if it CAN": by tokens, and by room. */
    private static void endsFires() {
        BoxFlow x = Check.boxes(0, 1, 0, 2);
        x.wire(0, 1, 2, 3);
        x.plan(FIRES, 1);
        end("it can't", x, 0, 0);
        x.plan(FIRES, 0);
        end("it can", x, 2, 3);
        x.plan(FIRES, 1);
        end("two of three", x, 2, 3);
        x.plan(FIRES, 0);
        end("it can", x, 4, 6);
        x.plan(FIRES, 1);
        end("three of three", x, 1, 2);
        BoxFlow room = Check.boxes(0, 1, 0, 2);
        room.wire(0, 1, 2, 3);
        for (int k = 0; k < 97; k++) {
            room.token(0, 0);
        }
        room.plan(FIRES, 0);
        end("to 99", room, 99, 3);
        room.plan(FIRES, 0);
        end("no room", room, 99, 3);
        CHECK.due("nobody fired", room.of(0, 2), 0);
    }

    /** "1 WIRE n has no TOKENS": also if it had none, or 99. */
    private static void endsEmpties() {
        BoxFlow x = round();
        x.wire(0, 1, 1, 1);
        x.plan(EMPTIES, 1);
        end("it had none", x, 1, 5);
        for (int k = 0; k < 99; k++) {
            x.token(1, 1);
        }
        end("it had 99", x, 1, 5);
        x.plan(FIRES, 0);
        end("tokens come on it again", x, 2, 12);
        x.plan(EMPTIES, 0);
        end("the other one", x, 1, 6);
        x.plan(EMPTIES, 1);
        end("both", x, 0, 0);
        CHECK.due("nothing was changed", x.about(1, 4), 99);
    }

    /** "2 v of BOX n is 0": from that row on. */
    private static void endsZeroes() {
        BoxFlow x = Check.boxes(0, 9);
        x.wire(0, 0, 1, 1);
        x.token(0, 5);
        x.plan(FIRES, 0);
        end("9 more", x, 1, 14);
        x.plan(ZEROES, 0);
        end("9 more", x, 1, 14);
        x.plan(FIRES, 0);
        end("0 more", x, 1, 14);
        x.plan(ZEROES, 0);
        x.plan(PERIOD, 0);
        end("0 more", x, 1, 14);
        CHECK.due("v stays", x.of(0, 1), 9);
    }

    /** "3 a PERIOD, if it doesn't STAND and isn't UNEVEN". */
    private static void endsPeriod() {
        BoxFlow x = Check.boxes(0, 1, 0, 1);
        x.wire(0, 1, 1, 1);
        x.wire(1, 1, 1, 1);
        x.plan(PERIOD, 0);
        end("stands", x, 0, 0);
        x.token(1, 5);
        end("goes", x, 1, 7);
        x.plan(EMPTIES, 1);
        x.plan(PERIOD, 0);
        end("stands then", x, 0, 0);
        x.wire(1, 1, 1, 2);
        Check.tokens(x, 2, 1, 1, 1);
        end("uneven", x, 3, 3);
        BoxFlow first = Check.boxes(0, 1, 0, 1);
        first.wire(0, 0, 1, 1);
        first.wire(1, 0, 1, 1);
        first.plan(PERIOD, 0);
        first.plan(FIRES, 1);
        first.plan(PERIOD, 0);
        end("box 1 fires, the period stands", first, 1, 1);
    }

    /** The rows go in their order, the tenth, too. */
    private static void endsOfTenRows() {
        BoxFlow x = Check.boxes(0, 1);
        x.wire(0, 0, 1, 1);
        x.token(0, 0);
        for (int r = 1; r <= 9; r++) {
            x.plan(r % 2 == 0 ? PERIOD : FIRES, 0);
            end(r + " rows", x, 1, r);
        }
        x.plan(EMPTIES, 0);
        end("ten rows", x, 0, 0);
        BoxFlow y = Check.boxes(0, 1);
        y.wire(0, 0, 1, 1);
        y.token(0, 100);
        y.plan(EMPTIES, 0);
        for (int r = 2; r <= 10; r++) {
            y.plan(PERIOD, 0);
        }
        end("emptied first", y, 0, 0);
        y.cut(0);
        end("cut", y, 0, 0);
    }

    /** "A row whose WIRE is CUT now does nothing." */
    private static void endsCut() {
        BoxFlow x = round();
        x.wire(0, 1, 1, 1);
        x.token(1, 7);
        x.plan(EMPTIES, 1);
        x.plan(EMPTIES, 0);
        end("both emptied", x, 0, 0);
        x.cut(1);
        end("one is cut", x, 0, 0);
        x.plan(-1, 0);
        x.wire(1, 1, 1, 1);
        x.token(2, 8);
        x.plan(EMPTIES, 2);
        x.plan(FIRES, 0);
        end("wire 2 is emptied", x, 1, 6);
        x.cut(2);
        end("its row does nothing, the next one does", x, 1, 6);
        CHECK.due("rows stay", x.count(4), 2);
    }

    private static int together(int... tokens) {
        BoxFlow x = Check.boxes(0, 0);
        x.wire(0, 0, 1, 1);
        x.wire(0, 0, 1, 1);
        for (int k = 0; k < tokens.length; k++) {
            x.token(k % 2, tokens[k]);
        }
        return x.ends(1);
    }

    /** "all of them, together (their values, wrapping)". */
    private static void endsWraps() {
        CHECK.due("below", together(MAX - 1), MAX - 1);
        CHECK.due("at", together(MAX - 1, 1), MAX);
        CHECK.due("above", together(MAX, 1), MIN);
        CHECK.due("at", together(MIN + 1, -1), MIN);
        CHECK.due("below", together(MIN, -1), MAX);
        CHECK.due("twice the greatest", together(MAX, MAX), -2);
        CHECK.due("twice the least", together(MIN, MIN), 0);
        CHECK.due("thrice the least", together(MIN, MIN, MIN), MIN);
        CHECK.due("wraps and comes back", together(MAX, 1, -1), MAX);
        CHECK.due("as NONE elsewhere", together(-1), -1);
        CHECK.due("may be as NONE here", together(-10001), NO_END);
    }

    /** "NONE is -10001." */
    private static void endsRefusals() {
        for (int what : new int[] {MIN, -1, 2, 3, MAX}) {
            EMPTY.refused("ends(" + what + ")", x -> x.ends(what), NO_END);
            SOME.refused("ends(" + what + ")", x -> x.ends(what), NO_END);
            FILLED.refused("ends(" + what + ")", x -> x.ends(what), NO_END);
            UNEVEN.refused("ends(" + what + ")", x -> x.ends(what), NO_END);
        }
    }

    // ---- promise 23: book

    /** "A BOOK told by hand: WIRES, how many TOKENS (0 .. 99 ..)"; "BAD: n". */
    private static void bookNumbers() {
        for (int n : new int[] {0, 1, 98, 99}) {
            CHECK.due("n " + n, round().book(0, n), 1);
        }
        for (int n : new int[] {MIN, -2, -1, 100, 101, MAX}) {
            BoxFlow x = round();
            CHECK.due("n " + n, x.book(0, n), BAD);
            CHECK.due("none came", x.count(5), 0);
        }
    }

    /** "8 at most"; "FULL: 8". */
    private static void bookEightRows() {
        BoxFlow x = round();
        for (int r = 1; r <= 8; r++) {
            CHECK.due("row " + r, x.book(0, 1), r);
            CHECK.due("rows", x.count(5), r);
        }
        CHECK.due("the ninth", x.book(0, 2), FULL);
        CHECK.due("rows", x.count(5), 8);
        CHECK.due("the ninth isn't there", x.looked(), -5);
    }

    /** "(wire -1: it is empty then, 0)": whatever n is, and however many rows there are. */
    private static void bookEmptyThen() {
        for (int n : new int[] {MIN, -1, 0, 99, 100, MAX}) {
            BoxFlow x = round();
            CHECK.due("none there", x.book(-1, n), 0);
            for (int r = 0; r < 8; r++) {
                x.book(0, 9);
            }
            CHECK.due("otherwise", x.looked(), 0);
            CHECK.due("eight there", x.book(-1, n), 0);
            CHECK.due("none", x.count(5), 0);
            CHECK.due("nothing is otherwise", x.looked(), -5);
            CHECK.due("room again", x.book(0, 9), 1);
        }
        CHECK.due("a new object", new BoxFlow().book(-1, 0), 0);
    }

    /** "NONE; BAD: n; FULL: 8." */
    private static void bookRefusals() {
        EMPTY.refused("book(0, 0)", x -> x.book(0, 0), NONE);
        for (int wire : new int[] {MIN, -2, 4, 5, 8, MAX}) {
            SOME.refused("book(" + wire + ", 0)", x -> x.book(wire, 0), NONE);
            SOME.refused("wire ahead of n: " + wire, x -> x.book(wire, 100), NONE);
        }
        SOME.refused("book(0, -1)", x -> x.book(0, -1), BAD);
        SOME.refused("book(0, 100)", x -> x.book(0, 100), BAD);
        FILLED.refused("book(0, 0)", x -> x.book(0, 0), FULL);
        FILLED.refused("book(7, 99)", x -> x.book(7, 99), FULL);
        FILLED.refused("n ahead of FULL", x -> x.book(0, 100), BAD);
        FILLED.refused("n ahead of FULL", x -> x.book(0, -1), BAD);
        FILLED.refused("wire ahead of FULL", x -> x.book(8, 0), NONE);
        FILLED.refused("wire ahead of n and FULL", x -> x.book(-2, -1), NONE);
    }

    // ---- promise 24: looked

    /** "the number of the first of these rows by which it is otherwise now (CUT, too; -5: none)". */
    private static void lookedRows() {
        CHECK.due("no rows", round().looked(), -5);
        for (int otherwise = 0; otherwise < 8; otherwise++) {
            BoxFlow x = round();
            for (int r = 0; r < 8; r++) {
                x.book(0, r >= otherwise ? 2 : 1);
            }
            CHECK.due("row " + otherwise, x.looked(), otherwise);
            x.token(0, 0);
            CHECK.due("now the first ones", x.looked(), otherwise == 0 ? -5 : 0);
        }
    }

    /** One token fewer and one more than told, with none and with 99. */
    private static void lookedAtEdges() {
        BoxFlow x = Check.boxes(0, 0);
        x.wire(0, 0, 1, 1);
        x.book(0, 0);
        CHECK.due("0 told, 0 there", x.looked(), -5);
        x.token(0, 0);
        CHECK.due("0 told, 1 there", x.looked(), 0);
        x.book(-1, 0);
        x.book(0, 99);
        CHECK.due("99 told, 1 there", x.looked(), 0);
        States.fill(x, 0, 97);
        CHECK.due("99 told, 98 there", x.looked(), 0);
        x.token(0, 0);
        CHECK.due("99 told, 99 there", x.looked(), -5);
        x.book(0, 98);
        CHECK.due("98 told, 99 there", x.looked(), 1);
    }

    private static void lookedCut() {
        BoxFlow x = round();
        x.wire(0, 1, 1, 1);
        x.book(0, 1);
        x.book(1, 0);
        CHECK.due("both are so", x.looked(), -5);
        x.cut(1);
        CHECK.due("cut, though it had none", x.looked(), 1);
        x.cut(0);
        CHECK.due("both are cut", x.looked(), 0);
    }

    // ---- promises 26, 27: image, undo

    /** "THE IMAGE is taken: how many BOXES there are." */
    private static void imageOfNothing() {
        BoxFlow x = new BoxFlow();
        CHECK.due("no boxes", x.image(), 0);
        for (int b = 1; b <= 6; b++) {
            x.box(0, 0);
            CHECK.due("boxes", x.image(), b);
        }
        BoxFlow y = new BoxFlow();
        y.image();
        y.box(0, 9);
        y.wire(0, 0, 1, 2);
        y.token(0, 1);
        CHECK.due("nothing again", y.undo(), 0);
        for (int what = 0; what <= 6; what++) {
            CHECK.due("count " + what, y.count(what), 0);
        }
        CHECK.due("even again", y.told(0), 0);
        CHECK.due("no box", y.of(0, 0), NONE);
        CHECK.due("no wire", y.about(0, 0), NONE);
        CHECK.due("box 0 again", y.box(3, 4), 0);
        CHECK.due("its v", y.of(0, 1), 4);
        CHECK.due("wire 0 again", y.wire(0, 0, 2, 2), 0);
        CHECK.due("without tokens", y.about(0, 4), 0);
    }

    /** "STATE: there is none." */
    private static void undoWithoutImage() {
        EMPTY.refused("undo()", x -> x.undo(), STATE);
        BoxFlow x = round();
        CHECK.due("no image", x.undo(), STATE);
        CHECK.due("nothing was changed", x.count(0), 2);
        CHECK.due("nothing was changed", x.read(0, 0), 5);
        x.image();
        CHECK.due("an image", x.undo(), 2);
    }

    /** "THE IMAGE: BOXES, WIRES with all that is theirs". */
    private static void undoBoxesAndWires() {
        BoxFlow x = round();
        x.wire(1, 0, 2, 3);
        x.cut(1);
        x.fire(1);
        x.image();
        x.box(0, 0);
        x.wire(2, 2, 1, 2);
        x.fire(0);
        x.fire(1);
        x.token(0, 7);
        x.cut(0);
        CHECK.due("boxes", x.undo(), 2);
        CHECK.due("no box 2", x.of(2, 0), NONE);
        CHECK.due("fired", x.of(0, 2), 0);
        CHECK.due("fired", x.of(1, 2), 1);
        CHECK.due("wires that came", x.count(1), 2);
        CHECK.due("wires that are there", x.count(2), 1);
        CHECK.due("the cut one is there", x.about(0, 4), 1);
        CHECK.due("its token", x.read(0, 0), 5);
        CHECK.due("no second", x.read(0, 1), BoxFlow.NO);
        CHECK.due("cut ahead of the image: cut", x.about(1, 0), NONE);
        CHECK.due("no wire 2", x.about(2, 0), NONE);
        CHECK.due("its number comes next", x.wire(0, 1, 1, 1), 2);
    }

    /** "SEEN, the PLAN, the BOOK". */
    private static void undoRows() {
        BoxFlow x = round();
        x.see(0, 0, 5);
        x.plan(PERIOD, 0);
        x.book(0, 1);
        x.image();
        x.see(0, 0, 6);
        x.plan(EMPTIES, 0);
        x.book(0, 2);
        CHECK.due("not so", x.fits(0, 0), 0);
        CHECK.due("otherwise", x.looked(), 1);
        CHECK.due("emptied", x.ends(0), 0);
        x.undo();
        CHECK.due("seen", x.count(3), 1);
        CHECK.due("plan", x.count(4), 1);
        CHECK.due("book", x.count(5), 1);
        CHECK.due("so", x.fits(0, 0), 10);
        CHECK.due("as told", x.looked(), -5);
        CHECK.due("a period", x.ends(1), 6);
        x.see(-1, 0, 0);
        x.plan(-1, 0);
        x.book(-1, 0);
        x.undo();
        CHECK.due("seen", x.count(3), 1);
        CHECK.due("plan", x.count(4), 1);
        CHECK.due("book", x.count(5), 1);
    }

    /** The image stays: what comes behind an undo doesn't come into it. */
    private static void undoTwice() {
        BoxFlow x = round();
        x.image();
        for (int k = 0; k < 3; k++) {
            x.fire(0);
            x.token(0, 1);
            x.box(0, 0);
            CHECK.due("undone", x.undo(), 2);
            CHECK.due("its token", x.read(0, 0), 5);
            CHECK.due("tokens", x.told(5), 1);
            CHECK.due("fired", x.of(0, 2), 0);
        }
    }

    private static void imageAnew() {
        BoxFlow x = round();
        x.image();
        x.fire(0);
        x.box(0, 0);
        CHECK.due("anew", x.image(), 3);
        x.fire(0);
        CHECK.due("the new one", x.undo(), 3);
        CHECK.due("its token", x.read(0, 0), 6);
    }

    /** An image of all that may be, taken back to it from less. */
    private static void imageOfFull() {
        Whole kept = new Whole(CHECK, "full, undone", () -> {
            BoxFlow x = States.full();
            x.image();
            return x;
        });
        kept.asked("cuts and undo", x -> {
            x.cut(0);
            x.cut(7);
            x.see(-1, 0, 0);
            x.plan(-1, 0);
            x.book(-1, 0);
            return x.undo();
        });
        BoxFlow x = new BoxFlow();
        x.image();
        for (int b = 0; b < 6; b++) {
            x.box(0, 0);
        }
        for (int w = 0; w < 8; w++) {
            x.wire(0, 0, 1, 1);
        }
        CHECK.due("from full to nothing", x.undo(), 0);
        CHECK.due("room again", x.box(0, 0), 0);
        CHECK.due("room again", x.wire(0, 0, 1, 1), 0);
    }

    /** THE TEXT and the tapes are no part of THE IMAGE. */
    private static void undoLeavesTheRest() {
        BoxFlow x = round();
        x.tape(0, 2, 1);
        x.image();
        x.feed('0');
        x.tape(0, 3, 2);
        x.item(0, 1, 1L << 40);
        x.undo();
        CHECK.due("the text", x.count(6), 1);
        CHECK.due("the tape", x.peek(0, 1), 1L << 40);
        x.graph();
        x.undo();
        CHECK.due("the text stays empty", x.count(6), 0);
    }

    // ---- promise 28: count

    private static void counts() {
        BoxFlow x = States.full();
        int[] want = {6, 8, 8, 5, 10, 8, 100};
        for (int what = 0; what <= 6; what++) {
            CHECK.due("full: count " + what, x.count(what), want[what]);
        }
        x.cut(0);
        x.cut(7);
        CHECK.due("came", x.count(1), 8);
        CHECK.due("are there", x.count(2), 6);
    }

    /** "BAD." */
    private static void countRefusals() {
        for (int what : new int[] {MIN, -1, 7, MAX}) {
            EMPTY.refused("count(" + what + ")", x -> x.count(what), BAD);
            SOME.refused("count(" + what + ")", x -> x.count(what), BAD);
            FILLED.refused("count(" + what + ")", x -> x.count(what), BAD);
        }
    }

    /** "what is asked changes nothing". */
    private static void askingChangesNothing() {
        for (Whole state : new Whole[] {EMPTY, SOME, FILLED, UNEVEN, STANDING}) {
            state.asked("ends(0)", x -> x.ends(0));
            state.asked("ends(1)", x -> x.ends(1));
            state.asked("looked()", x -> x.looked());
            for (int what = 0; what <= 6; what++) {
                int asked = what;
                state.asked("count(" + what + ")", x -> x.count(asked));
            }
        }
    }
}
