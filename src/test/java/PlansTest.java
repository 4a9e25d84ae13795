/** Promises 21 to 28: plans, books, judging, the image, how many there are. */
public final class PlansTest {
    private static final Check CHECK = new Check();
    private static final int MIN = Integer.MIN_VALUE, MAX = Integer.MAX_VALUE;

    public static void main(String[] args) {
        plan();
        ends();
        endsWrapping();
        book();
        looked();
        judge();
        judgeRefusals();
        image();
        imageLeavesTheRest();
        count();
        CHECK.end("PlansTest");
    }

    private static BoxFlow round() {
        BoxFlow x = Check.boxes(0, 1, 2, 2, 1, 3);
        x.wire(0, 1, 1, 1);
        x.wire(1, 0, 1, 1);
        x.wire(1, 2, 1, 2);
        x.token(1, 5);
        return x;
    }

    private static void plan() {
        BoxFlow x = round();
        CHECK.due("what 4", x.plan(4, 0), -1);
        CHECK.due("what -2", x.plan(-2, 0), -1);
        CHECK.due("box 3", x.plan(0, 3), -1);
        CHECK.due("box -1", x.plan(2, -1), -1);
        CHECK.due("box 3", x.plan(2, 3), -1);
        CHECK.due("wire 3", x.plan(1, 3), -1);
        CHECK.due("wire -1", x.plan(1, -1), -1);
        CHECK.due("n doesn't matter", x.plan(3, MIN), 1);
        for (int r = 2; r <= 10; r++) {
            CHECK.due("row", x.plan(r % 3, 2), r);
        }
        CHECK.due("11th", x.plan(3, 0), -4);
        CHECK.due("11th, none", x.plan(0, 3), -1);
        CHECK.due("11th, no wire", x.plan(1, 3), -1);
        CHECK.due("count", x.count(4), 10);
        CHECK.due("empty", x.plan(-1, 99), 0);
        CHECK.due("count", x.count(4), 0);
        x.cut(2);
        CHECK.due("cut", x.plan(1, 2), -1);
    }

    private static void ends() {
        BoxFlow x = round();
        CHECK.due("no plan", x.ends(0), 1);
        CHECK.due("no plan", x.ends(1), 5);
        CHECK.due("what 2", x.ends(2), -10001);
        CHECK.due("what -1", x.ends(-1), -10001);
        x.plan(0, 1);
        CHECK.due("box 1 can't", x.ends(1), 5);
        x.plan(0, 0);
        CHECK.due("box 0 can", x.ends(1), 6);
        x.plan(0, 1);
        CHECK.due("box 1 can", x.ends(0), 2);
        CHECK.due("box 1 can", x.ends(1), 12);
        x.plan(3, 0);
        CHECK.due("a period", x.ends(0), 2);
        CHECK.due("wire 1: 8, wire 2: 8", x.ends(1), 16);
        x.plan(2, 0);
        x.plan(3, 0);
        CHECK.due("v is 0", x.ends(1), 16);
        x.plan(1, 2);
        CHECK.due("wire 2 has none", x.ends(0), 1);
        CHECK.due("wire 2 has none", x.ends(1), 8);
        x.plan(1, 1);
        CHECK.due("nothing", x.ends(0), 0);
        x.plan(3, 0);
        CHECK.due("stands", x.ends(0), 0);
        CHECK.due("nothing was changed", x.read(1, 0), 5);
        CHECK.due("nothing was changed", x.of(0, 1), 1);
        x.cut(1);
        x.token(2, 3);
        CHECK.due("a row whose wire is cut does nothing; the others do", x.ends(0), 0);

        BoxFlow y = round();
        y.plan(1, 2);
        y.token(2, 9);
        CHECK.due("emptied", y.ends(0), 1);
        y.cut(1);
        y.plan(-1, 0);
        y.wire(1, 0, 1, 1);
        y.token(3, 4);
        y.plan(1, 3);
        y.plan(3, 0);
        CHECK.due("emptied, then it stands", y.ends(0), 1);
        y.cut(3);
        CHECK.due("cut: the row does nothing", y.ends(0), 1);
        y.wire(0, 0, 1, 2);
        CHECK.due("uneven", y.ends(0), 1);
        CHECK.due("uneven", y.ends(1), 9);
    }

    private static void endsWrapping() {
        BoxFlow x = round();
        Check.tokens(x, 2, MAX, MAX);
        CHECK.due("wrapping", x.ends(1), 3);
        Check.tokens(x, 2, 1);
        CHECK.due("how many", x.ends(0), 4);
        CHECK.due("wrapping", x.ends(1), 4);
        BoxFlow none = round();
        none.token(1, -10006);
        CHECK.due("may be as NONE", none.ends(1), -10001);
    }

    private static void book() {
        BoxFlow x = round();
        CHECK.due("wire 3, bad", x.book(3, 100), -1);
        CHECK.due("wire -2", x.book(-2, 0), -1);
        CHECK.due("n -1", x.book(0, -1), -2);
        CHECK.due("n 100", x.book(0, 100), -2);
        for (int r = 1; r <= 8; r++) {
            CHECK.due("row", x.book(0, r == 8 ? 99 : 0), r);
        }
        CHECK.due("9th", x.book(0, 0), -4);
        CHECK.due("9th, bad", x.book(0, 100), -2);
        CHECK.due("9th, none", x.book(3, 100), -1);
        CHECK.due("count", x.count(5), 8);
        CHECK.due("row 7", x.looked(), 7);
        CHECK.due("empty", x.book(-1, 100), 0);
        CHECK.due("count", x.count(5), 0);
    }

    private static void looked() {
        BoxFlow x = round();
        CHECK.due("none", x.looked(), -5);
        x.book(1, 1);
        x.book(0, 0);
        x.book(2, 2);
        CHECK.due("row 2", x.looked(), 2);
        Check.tokens(x, 2, 1, 1);
        CHECK.due("all so", x.looked(), -5);
        x.token(0, 1);
        CHECK.due("row 1", x.looked(), 1);
        x.fire(1);
        CHECK.due("row 0", x.looked(), 0);
        x.fire(0);
        CHECK.due("row 1 again", x.looked(), 1);
        BoxFlow y = round();
        y.book(1, 1);
        y.book(0, 0);
        y.cut(0);
        CHECK.due("cut", y.looked(), 1);
    }

    private static void judge() {
        BoxFlow x = round();
        Check.tokens(x, 2, 4, 5, 6, 7);
        x.tape(0, 2, 5);
        for (int i = 0; i < 5; i++) {
            x.item(0, i, 3 + i);
        }
        CHECK.due("otherwise at once", x.judge(2, 0, 0), 0);
        CHECK.due("all so", x.judge(2, 0, 1), -5);
        x.item(0, 3, 66);
        CHECK.due("number 2", x.judge(2, 0, 1), 2);
        x.item(0, 3, 6);
        x.item(0, 4, 70);
        CHECK.due("number 3", x.judge(2, 0, 1), 3);
        x.item(0, 2, 4);
        x.item(0, 3, 5);
        x.item(0, 4, 6);
        CHECK.due("the row ends", x.judge(2, 0, 2), 103);
        CHECK.due("the row ends at once", x.judge(2, 0, 5), 100);
        CHECK.due("beyond", x.judge(2, 0, 6), 100);
        CHECK.due("MAX", x.judge(2, 0, MAX), 100);
        CHECK.due("below 0", x.judge(2, 0, -1), 100);
        CHECK.due("MIN", x.judge(2, 0, MIN), 100);
        CHECK.due("nothing there", x.judge(2, 1, 0), 100);
        x.tape(1, 2, 0);
        CHECK.due("no items", x.judge(2, 1, 0), 100);
        CHECK.due("no tokens", x.judge(0, 0, 0), -5);
        CHECK.due("no tokens, no place", x.judge(0, 0, -1), -5);
        CHECK.due("no tokens, nothing there", x.judge(0, 2, 0), -5);
        x.tape(3, 2, 60);
        for (int k = 4; k < 70; k++) {
            x.token(2, 0);
        }
        x.plan(-1, 0);
        x.item(3, 0, 4);
        x.item(3, 1, 5);
        x.item(3, 2, 6);
        x.item(3, 3, 7);
        CHECK.due("60 looked at", x.judge(2, 3, 0), 160);
    }

    private static void judgeRefusals() {
        BoxFlow x = round();
        x.tape(0, 0, 5);
        x.tape(1, 1, 5);
        x.tape(3, 3, 5);
        x.tape(4, 4, 5);
        CHECK.due("wire 3", x.judge(3, 0, 0), -1);
        CHECK.due("tape 6", x.judge(1, 6, 0), -1);
        CHECK.due("tape -1", x.judge(1, -1, 0), -1);
        CHECK.due("bytes", x.judge(1, 0, 0), -12);
        CHECK.due("shorts", x.judge(1, 1, 0), -12);
        CHECK.due("longs", x.judge(1, 3, 0), -12);
        CHECK.due("booleans", x.judge(1, 4, -1), -12);
        CHECK.due("bytes, no tokens", x.judge(0, 0, 0), -12);
        x.cut(1);
        CHECK.due("cut", x.judge(1, 0, 0), -1);
    }

    private static void image() {
        BoxFlow x = round();
        CHECK.due("no image", x.undo(), -3);
        x.see(1, 1, 7);
        x.plan(3, 0);
        x.book(1, 1);
        x.fire(0);
        CHECK.due("taken", x.image(), 3);
        x.fire(1);
        x.box(4, 4);
        x.wire(3, 3, 1, 2);
        x.token(3, 8);
        x.token(2, 8);
        x.cut(0);
        x.see(2, 0, 7);
        x.plan(0, 3);
        x.book(3, 1);
        CHECK.due("undone", x.undo(), 3);
        CHECK.due("fired", x.of(0, 2), 1);
        CHECK.due("fired", x.of(1, 2), 0);
        CHECK.due("boxes", x.count(0), 3);
        CHECK.due("wires", x.count(1), 3);
        CHECK.due("wires", x.count(2), 3);
        CHECK.due("no wire 3", x.about(3, 0), -1);
        CHECK.due("seen", x.count(3), 1);
        CHECK.due("plan", x.count(4), 1);
        CHECK.due("book", x.count(5), 1);
        CHECK.due("wire 0", x.read(0, 0), 6);
        CHECK.due("wire 2", x.about(2, 4), 0);
        CHECK.due("looked", x.looked(), 0);
        CHECK.due("a new box", x.box(0, 9), 3);
        CHECK.due("its kind", x.of(3, 0), 0);
        CHECK.due("its fired", x.of(3, 2), 0);
        CHECK.due("a new wire", x.wire(0, 0, 4, 4), 3);
        CHECK.due("without tokens", x.about(3, 4), 0);
        CHECK.due("again", x.undo(), 3);
        CHECK.due("boxes", x.count(0), 3);
        x.see(-1, 0, 0);
        x.plan(-1, 0);
        x.book(-1, 0);
        CHECK.due("anew", x.image(), 3);
        x.see(1, 1, 1);
        x.undo();
        CHECK.due("seen", x.count(3), 0);
        CHECK.due("plan", x.count(4), 0);
        CHECK.due("book", x.count(5), 0);
        BoxFlow empty = new BoxFlow();
        CHECK.due("an image of nothing", empty.image(), 0);
        empty.box(0, 0);
        CHECK.due("nothing again", empty.undo(), 0);
        CHECK.due("boxes", empty.count(0), 0);
    }

    /** The text and the tapes are no part of it. */
    private static void imageLeavesTheRest() {
        BoxFlow x = round();
        Check.feed(x, "0:1>");
        x.tape(0, 2, 3);
        x.item(0, 1, 5);
        x.image();
        Check.feed(x, "1:1");
        x.item(0, 1, 6);
        x.tape(1, 0, 1);
        x.undo();
        CHECK.due("the text stays", x.count(6), 7);
        CHECK.due("tapes stay", x.peek(0, 1), 6);
        CHECK.due("tapes stay", x.peek(1, 0), 0);
        CHECK.due("it is read", x.graph(), 1);
    }

    private static void count() {
        BoxFlow x = round();
        x.cut(1);
        x.see(0, 0, 1);
        x.see(0, 0, 1);
        x.see(0, 0, 1);
        x.plan(3, 0);
        x.plan(3, 0);
        x.plan(3, 0);
        x.plan(3, 0);
        for (int r = 0; r < 5; r++) {
            x.book(0, 0);
        }
        Check.feed(x, "666666");
        long[] want = {3, 3, 2, 3, 4, 5, 6};
        for (int what = 0; what <= 6; what++) {
            CHECK.due("count " + what, x.count(what), want[what]);
        }
        CHECK.due("count 7", x.count(7), -2);
        CHECK.due("count -1", x.count(-1), -2);
        CHECK.due("count MIN", x.count(MIN), -2);
    }
}
