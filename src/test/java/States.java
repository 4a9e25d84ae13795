/** Objects in states that refusals are tried on. Each is made by fewer than 270 calls, so that some are left to ask. */
final class States {
    /** A graph of 100 bytes, as many as THE TEXT has at most. */
    static final String LONG = "0:1>0:1+111,222,333,444,555,666;0:2>1:2+111,222,333,444,555,666;1:1>0:1+111,222,333,44,55,66;0:3>0:3";

    private States() {
    }

    static BoxFlow none() {
        return new BoxFlow();
    }

    /** Four boxes, four wires and a cut one, room everywhere, each tape of another sort; the image is otherwise. */
    static BoxFlow some() {
        BoxFlow x = Check.boxes(0, 1, 2, 2, 1, 3);
        x.wire(0, 1, 1, 1);
        x.wire(1, 0, 1, 1);
        x.wire(1, 2, 1, 2);
        Check.tokens(x, 1, 5);
        x.see(1, 0, 5);
        x.plan(3, 0);
        x.book(0, 0);
        x.image();
        x.box(4, 9);
        x.wire(3, 3, 2, 2);
        x.wire(2, 3, 1, 1);
        Check.tokens(x, 3, 7, -8);
        Check.tokens(x, 4, 99);
        x.cut(4);
        x.fire(3);
        x.see(1, 1, 7);
        x.plan(0, 0);
        x.plan(1, 1);
        x.book(1, 1);
        x.book(3, 2);
        Check.feed(x, "0:2>1:3+5;3:1>3:");
        tapes(x, 3);
        x.tape(5, -1, 0);
        return x;
    }

    /** As some(), but a wire makes it uneven. */
    static BoxFlow uneven() {
        BoxFlow x = some();
        x.wire(0, 0, 1, 2);
        return x;
    }

    /** As some(), but no period goes. */
    static BoxFlow standing() {
        BoxFlow x = some();
        x.wire(2, 2, 3, 3);
        Check.tokens(x, 5, 1, 2);
        return x;
    }

    /** All that has a limit stands at it: boxes, wires, a wire's tokens, the text, SEEN, the plan, the book, tapes. */
    static BoxFlow full() {
        BoxFlow x = Check.boxes(0, 1, 2, 2, 1, 3, 3, 4, 4, 5, 0, 6);
        x.wire(0, 1, 1, 1);
        x.wire(1, 0, 1, 1);
        x.wire(2, 3, 1, 1);
        x.wire(3, 4, 2, 2);
        x.wire(4, 5, 1, 1);
        x.wire(5, 5, 1, 1);
        x.wire(1, 2, 1, 1);
        x.wire(0, 0, 3, 3);
        Check.tokens(x, 7, 1, 2, 3);
        Check.tokens(x, 5, -6);
        fill(x, 0, 98);
        x.image();
        x.token(0, 1234);
        x.token(1, 5);
        rows(x);
        Check.feed(x, LONG);
        tapes(x, 60);
        x.tape(5, 2, 60);
        return x;
    }

    private static void rows(BoxFlow x) {
        x.see(0, 0, 1234);
        x.see(1, 1, 100);
        x.see(0, 1, 12);
        x.see(5, 0, -6);
        x.see(7, 1, 14);
        for (int r = 0; r < 10; r++) {
            x.plan(r % 4, r % 4 == 1 ? 2 : r % 5);
        }
        int[] counts = {99, 1, 0, 0, 0, 1, 0, 3};
        for (int w = 0; w < 8; w++) {
            x.book(w, counts[w]);
        }
    }

    /** Tapes 0 .. 4 of sorts 0 .. 4, with items at both ends. */
    private static void tapes(BoxFlow x, int n) {
        for (int t = 0; t < 5; t++) {
            x.tape(t, t, n);
            x.item(t, 0, 1);
            x.item(t, n - 1, -2 - t);
        }
    }

    /** So many tokens come on a wire: 100, 101, .. */
    static void fill(BoxFlow x, int wire, int n) {
        for (int k = 0; k < n; k++) {
            x.token(wire, 100 + k);
        }
    }
}
