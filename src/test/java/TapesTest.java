/** Promises 29 to 32: tapes. */
public final class TapesTest {
    private static final Check CHECK = new Check();
    private static final long NO = BoxFlow.NO;
    private static final int MIN = Integer.MIN_VALUE, MAX = Integer.MAX_VALUE;

    public static void main(String[] args) {
        tape();
        item();
        lowestBits();
        shift();
        shiftItself();
        shiftRefusals();
        CHECK.end("TapesTest");
    }

    private static void tape() {
        BoxFlow x = new BoxFlow();
        CHECK.due("tape -1", x.tape(-1, 9, -1), -1);
        CHECK.due("tape 6", x.tape(6, -1, 0), -1);
        CHECK.due("sort 5 ahead of size", x.tape(0, 5, -1), -2);
        CHECK.due("sort -2", x.tape(0, -2, 0), -2);
        CHECK.due("n 61", x.tape(0, 0, 61), -2);
        CHECK.due("n MAX", x.tape(0, 0, MAX), -2);
        CHECK.due("n -1", x.tape(0, 0, -1), -14);
        CHECK.due("n MIN", x.tape(0, 4, MIN), -14);
        for (int sort = 0; sort <= 4; sort++) {
            CHECK.due("sort", x.tape(sort + 1, sort, 60), 1);
            CHECK.due("all 0", x.peek(sort + 1, 59), 0);
            CHECK.due("60 items", x.peek(sort + 1, 60), NO);
        }
        x.item(3, 0, 7);
        CHECK.due("refused", x.tape(3, 2, 61), -2);
        CHECK.due("as it was", x.peek(3, 0), 7);
        CHECK.due("anew", x.tape(3, 2, 5), 1);
        CHECK.due("all 0", x.peek(3, 0), 0);
        CHECK.due("no items", x.tape(3, 2, 0), 1);
        CHECK.due("no items", x.peek(3, 0), NO);
        CHECK.due("no items, but a row", x.item(3, 0, 1), -13);
        CHECK.due("nothing", x.tape(3, -1, MIN), 1);
        CHECK.due("nothing", x.item(3, 0, 1), -11);
        CHECK.due("nothing", x.tape(3, -1, 99), 1);
    }

    private static void item() {
        BoxFlow x = new BoxFlow();
        CHECK.due("tape 6", x.item(6, 0, 0), -1);
        CHECK.due("tape -1", x.item(-1, 0, 0), -1);
        CHECK.due("nothing ahead of place", x.item(0, -1, 0), -11);
        x.tape(0, 2, 3);
        CHECK.due("place -1", x.item(0, -1, 0), -13);
        CHECK.due("place 3", x.item(0, 3, 0), -13);
        CHECK.due("place MAX", x.item(0, MAX, 0), -13);
        CHECK.due("place 2", x.item(0, 2, -8), 1);
        CHECK.due("item 2", x.peek(0, 2), -8);
        CHECK.due("item 1", x.peek(0, 1), 0);
        CHECK.due("peek -1", x.peek(0, -1), NO);
        CHECK.due("peek 3", x.peek(0, 3), NO);
        CHECK.due("peek tape 6", x.peek(6, 0), NO);
        CHECK.due("peek tape -1", x.peek(-1, 0), NO);
        CHECK.due("peek nothing", x.peek(1, 0), NO);
    }

    private static void bits(int sort, long v, long want) {
        BoxFlow x = new BoxFlow();
        x.tape(5, sort, 1);
        CHECK.due("item", x.item(5, 0, v), 1);
        CHECK.due("sort " + sort + " of " + v, x.peek(5, 0), want);
    }

    private static void lowestBits() {
        bits(0, 127, 127);
        bits(0, 128, -128);
        bits(0, -129, 127);
        bits(0, 0x1234567890ABCDEFL, (byte) 0xEF);
        bits(1, 32767, 32767);
        bits(1, 32768, -32768);
        bits(1, 0x1234567890ABCDEFL, (short) 0xCDEF);
        bits(2, MAX, MAX);
        bits(2, MAX + 1L, MIN);
        bits(2, 0x1234567890ABCDEFL, 0x90ABCDEF);
        bits(3, 0x1234567890ABCDEFL, 0x1234567890ABCDEFL);
        bits(3, Long.MIN_VALUE, Long.MIN_VALUE);
        bits(4, 0, 0);
        bits(4, 1, 1);
        bits(4, 256, 1);
        bits(4, 1L << 40, 1);
        bits(4, -1, 1);
    }

    private static BoxFlow twoRows() {
        BoxFlow x = new BoxFlow();
        x.tape(0, 2, 5);
        x.tape(1, 2, 3);
        x.tape(2, 3, 5);
        for (int i = 0; i < 5; i++) {
            x.item(0, i, 10 + i);
            x.item(1, i, 20 + i);
        }
        return x;
    }

    private static void row(BoxFlow x, int tape, long... want) {
        for (int i = 0; i < want.length; i++) {
            CHECK.due("tape " + tape + " item " + i, x.peek(tape, i), want[i]);
        }
    }

    private static void shift() {
        BoxFlow x = twoRows();
        CHECK.due("two", x.shift(0, 3, 1, 0, 2), 2);
        row(x, 0, 10, 11, 12, 13, 14);
        row(x, 1, 13, 14, 22, NO);
        CHECK.due("three back", x.shift(1, 0, 0, 1, 3), 3);
        row(x, 0, 10, 13, 14, 22, 14);
        CHECK.due("nothing from the end", x.shift(0, 5, 1, 3, 0), 0);
        CHECK.due("whole", x.shift(0, 2, 1, 0, 3), 3);
        row(x, 1, 14, 22, 14);
    }

    private static void shiftItself() {
        BoxFlow up = twoRows();
        CHECK.due("up", up.shift(0, 0, 0, 1, 4), 4);
        row(up, 0, 10, 10, 11, 12, 13);
        BoxFlow down = twoRows();
        CHECK.due("down", down.shift(0, 1, 0, 0, 4), 4);
        row(down, 0, 11, 12, 13, 14, 14);
        BoxFlow same = twoRows();
        CHECK.due("same", same.shift(0, 0, 0, 0, 5), 5);
        row(same, 0, 10, 11, 12, 13, 14);
    }

    private static void shiftRefusals() {
        BoxFlow x = twoRows();
        CHECK.due("tape 6", x.shift(6, -1, 0, 0, 0), -1);
        CHECK.due("tape -1", x.shift(-1, 0, 0, 0, 0), -1);
        CHECK.due("other 6", x.shift(3, 0, 6, 0, 0), -1);
        CHECK.due("other -1", x.shift(0, 0, -1, 0, 0), -1);
        CHECK.due("nothing", x.shift(3, 0, 0, 0, -1), -11);
        CHECK.due("nothing in the other", x.shift(0, 0, 3, 0, -1), -11);
        CHECK.due("unlike sorts ahead of place", x.shift(0, 0, 2, 0, -1), -12);
        CHECK.due("n -1", x.shift(0, 0, 1, 0, -1), -13);
        CHECK.due("n MIN", x.shift(0, 0, 1, 0, MIN), -13);
        CHECK.due("i -1", x.shift(0, -1, 1, 0, 1), -13);
        CHECK.due("j -1", x.shift(0, 0, 1, -1, 1), -13);
        CHECK.due("beyond the source", x.shift(0, 4, 1, 0, 2), -13);
        CHECK.due("beyond the target", x.shift(0, 0, 1, 2, 2), -13);
        CHECK.due("beyond the target", x.shift(0, 0, 1, 0, 4), -13);
        CHECK.due("beyond the end by 0", x.shift(0, 6, 1, 0, 0), -13);
        CHECK.due("beyond the end by 0", x.shift(0, 0, 1, 4, 0), -13);
        CHECK.due("no sum wraps", x.shift(0, MAX, 1, 0, 1), -13);
        CHECK.due("no sum wraps", x.shift(0, 1, 1, MAX, MAX), -13);
        CHECK.due("no sum wraps", x.shift(0, MAX, 1, MAX, MAX), -13);
        row(x, 0, 10, 11, 12, 13, 14);
        row(x, 1, 20, 21, 22);
    }
}
