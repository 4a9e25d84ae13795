/** Promises 11 to 14: firing, periods, what is told of them, and when. */
public final class FiringTest {
    private static final Check CHECK = new Check();
    private static final long NO = BoxFlow.NO;
    private static final int MIN = Integer.MIN_VALUE, MAX = Integer.MAX_VALUE;

    public static void main(String[] args) {
        kinds();
        kindsWithNothingTaken();
        wrapping();
        orderOfTaking();
        refusals();
        manyFirings();
        periods();
        standing();
        periodOrder();
        firedIsBounded();
        told();
        least();
        when();
        CHECK.end("FiringTest");
    }

    /** A box that takes 5, -2 and 9, and puts four: what is made, and what comes. */
    private static void kind(int kind, long made, int... puts) {
        BoxFlow x = Check.boxes(0, 0, kind, 7);
        x.wire(0, 1, 1, 3);
        x.wire(1, 0, 4, 1);
        Check.tokens(x, 0, 5, -2, 9, 11);
        CHECK.due("made by kind " + kind, x.fire(1), made);
        for (int j = 0; j < 4; j++) {
            CHECK.due("kind " + kind + " puts " + j, x.read(1, j), puts[j]);
        }
        CHECK.due("left", x.about(0, 4), 1);
        CHECK.due("the latest is left", x.read(0, 0), 11);
    }

    private static void kinds() {
        kind(0, 19, 19, 20, 21, 22);
        kind(1, -630, -630, -630, -630, -630);
        kind(2, 9, 9, 8, 7, 6);
        kind(3, 9, 9, 7, 9, 7);
        kind(4, 12, 12, 24, 36, 48);
    }

    private static void kindsWithNothingTaken() {
        BoxFlow x = Check.boxes(0, 3, 1, 4, 2, 5, 3, 6, 4, 7);
        for (int b = 0; b < 5; b++) {
            x.wire(b, b, 2, 1);
            x.cut(b);
        }
        for (int b = 0; b < 4; b++) {
            CHECK.due("made of nothing " + b, x.fire(b), b + 3);
        }
        CHECK.due("counts 0", x.fire(4), 0);
        CHECK.due("counts 7", x.fire(4), 7);
        CHECK.due("counts 14", x.fire(4), 14);
        CHECK.due("fired", x.of(4, 2), 3);
        BoxFlow most = Check.boxes(3, 0);
        most.wire(0, 0, 1, 2);
        Check.tokens(most, 0, -5, -3);
        CHECK.due("v is the greatest", most.fire(0), 0);
    }

    private static void wrapping() {
        BoxFlow adds = Check.boxes(0, 9);
        adds.wire(0, 0, 2, 1);
        adds.token(0, MAX - 9);
        CHECK.due("no wrap yet", adds.fire(0), MAX);
        CHECK.due("MADE and 1 wraps", adds.read(0, 1), MIN);
        BoxFlow muls = Check.boxes(1, 2);
        muls.wire(0, 0, 1, 2);
        Check.tokens(muls, 0, 65536, 65537);
        CHECK.due("2 * 65536 * 65537", muls.fire(0), 131072);
        BoxFlow last = Check.boxes(2, 2);
        last.wire(0, 0, 2, 1);
        last.token(0, MIN);
        CHECK.due("last", last.fire(0), MIN);
        CHECK.due("less 1 wraps", last.read(0, 1), MAX);
        BoxFlow counts = Check.boxes(4, 9);
        counts.wire(0, 0, 3, 1);
        counts.token(0, MAX);
        CHECK.due("counts", counts.fire(0), MAX);
        CHECK.due("times 2 wraps", counts.read(0, 1), -2);
        CHECK.due("times 3 wraps", counts.read(0, 2), MAX - 2);
        CHECK.due("counts, fired once", counts.fire(0), MIN + 8);
    }

    private static void orderOfTaking() {
        BoxFlow x = Check.boxes(2, 1, 2, 1);
        x.wire(1, 0, 1, 2);
        x.wire(0, 0, 2, 1);
        x.wire(1, 0, 1, 1);
        x.wire(0, 1, 3, 1);
        Check.tokens(x, 0, 10, 11, 12);
        Check.tokens(x, 1, 20, 21);
        Check.tokens(x, 2, 30, 31);
        CHECK.due("the latest by numbers of wires", x.fire(0), 30);
        CHECK.due("wire 0", x.read(0, 0), 12);
        CHECK.due("itself: behind what was there", x.read(1, 0), 21);
        CHECK.due("itself: 30", x.read(1, 1), 30);
        CHECK.due("itself: 29", x.read(1, 2), 29);
        CHECK.due("itself: 3", x.about(1, 4), 3);
        CHECK.due("wire 2", x.read(2, 0), 31);
        CHECK.due("wire 3", x.read(3, 2), 28);
    }

    private static void refusals() {
        BoxFlow x = Check.boxes(0, 1, 0, 1);
        x.wire(0, 1, 1, 2);
        CHECK.due("box 2", x.fire(2), NO);
        CHECK.due("box -1", x.fire(-1), NO);
        CHECK.due("box MAX", x.fire(MAX), NO);
        CHECK.due("can't", x.fire(1), NO);
        CHECK.due("can", x.fire(0), 1);
        CHECK.due("can't yet", x.fire(1), NO);
        CHECK.due("nothing was changed", x.of(1, 2), 0);
        CHECK.due("nothing was taken", x.about(0, 4), 1);
        CHECK.due("can", x.fire(0), 1);
        CHECK.due("can now", x.fire(1), 3);
    }

    /** The row of tokens goes on rightly, however many went through it. */
    private static void manyFirings() {
        BoxFlow x = Check.boxes(0, 1);
        x.wire(0, 0, 1, 1);
        for (int k = 0; k < 99; k++) {
            x.token(0, k * 10);
        }
        for (int k = 0; k < 250; k++) {
            CHECK.due("firing " + k, x.fire(0), k % 99 * 10 + k / 99 + 1);
        }
        for (int k = 0; k < 99; k++) {
            int number = (k + 250) % 99;
            CHECK.due("token " + k, x.read(0, k), number * 10 + (number < 52 ? 3 : 2));
        }
        CHECK.due("still full", x.token(0, 1), -4);
    }

    private static void periods() {
        BoxFlow x = Check.boxes(0, 1, 2, 2, 1, 3);
        x.wire(0, 1, 1, 1);
        x.wire(1, 0, 1, 1);
        x.wire(1, 2, 1, 2);
        x.token(1, 5);
        CHECK.due("-1", x.period(-1), -2);
        CHECK.due("10", x.period(10), -2);
        CHECK.due("0", x.period(0), 0);
        CHECK.due("1", x.period(1), 1);
        CHECK.due("token", x.read(1, 0), 7);
        CHECK.due("fired", x.of(0, 2), 2);
        CHECK.due("fired", x.of(2, 2), 1);
        CHECK.due("9", x.period(9), 9);
        CHECK.due("token", x.read(1, 0), 25);
        CHECK.due("fired", x.of(1, 2), 20);
        CHECK.due("counts are back", x.told(5), 1);
        x.wire(0, 0, 1, 2);
        CHECK.due("uneven", x.period(1), -3);
        CHECK.due("uneven, 0", x.period(0), -3);
        CHECK.due("uneven, bad", x.period(10), -2);
        BoxFlow empty = new BoxFlow();
        CHECK.due("no boxes", empty.period(9), 9);
    }

    private static void standing() {
        BoxFlow x = Check.boxes(0, 1, 0, 2);
        x.wire(0, 1, 2, 3);
        x.wire(1, 0, 3, 2);
        Check.tokens(x, 1, 7, 8, 9);
        CHECK.due("stands", x.period(3), 0);
        CHECK.due("it isn't gone", x.of(0, 2), 0);
        CHECK.due("tokens as before", x.read(1, 0), 7);
        CHECK.due("tokens as before", x.about(0, 4), 0);
        CHECK.due("stands, 0", x.period(0), 0);
        x.token(1, 10);
        CHECK.due("goes", x.period(2), 2);
        CHECK.due("fired", x.of(0, 2), 6);
    }

    private static void periodOrder() {
        BoxFlow x = Check.boxes(4, 1, 4, 1, 4, 1);
        x.wire(2, 1, 1, 1);
        x.wire(1, 0, 2, 1);
        long[] want = {2, 1, 0, 0, -5};
        for (int k = 0; k < 5; k++) {
            CHECK.due("the first by number that can " + k, x.when(k), want[k]);
        }
        x.token(1, 50);
        long[] other = {0, 2, 1, 0, -5};
        for (int k = 0; k < 5; k++) {
            CHECK.due("with a token there " + k, x.when(k), other[k]);
        }
        x.period(1);
        CHECK.due("box 0 took 50 and the first", x.about(1, 4), 1);
        CHECK.due("the second is left", x.read(1, 0), 0);
        x.period(1);
        CHECK.due("behind two: 1 + 1 twice", x.read(1, 0), 4);
    }

    private static void firedIsBounded() {
        BoxFlow x = Check.boxes(4, 9, 0, 0);
        x.wire(1, 0, 4, 1);
        x.wire(1, 1, 4, 4);
        x.wire(0, 0, 1, 1);
        for (int b = 2; b < 6; b++) {
            x.box(0, 0);
        }
        x.wire(2, 1, 3, 1);
        x.wire(3, 2, 4, 1);
        Check.tokens(x, 1, 0, 0, 0, 0);
        Check.tokens(x, 2, 0);
        CHECK.due("48 a period", x.of(0, 3), 48);
        for (int k = 0; k < 23; k++) {
            x.period(9);
        }
        CHECK.due("below", x.of(0, 2), 48 * 9 * 23);
        x.period(1);
        CHECK.due("9984", x.of(0, 2), 9984);
        x.period(1);
        CHECK.due("9999 at most", x.of(0, 2), 9999);
        x.cut(0);
        x.cut(2);
        CHECK.due("counts by it", x.fire(0), 9999 * 9);
        CHECK.due("it can still fire", x.fire(0), 9999 * 9);
        CHECK.due("9999 at most", x.of(0, 2), 9999);
    }

    private static void told() {
        BoxFlow x = Check.boxes(0, 0, 0, 0);
        x.wire(0, 1, 2, 1);
        long[] even = {0, 3, 0, 2, 2, 0};
        for (int what = 0; what <= 5; what++) {
            CHECK.due("even " + what, x.told(what), even[what]);
        }
        x.wire(1, 0, 1, 2);
        long[] standing = {0, 3, 1, 0, -5, 0};
        for (int what = 0; what <= 5; what++) {
            CHECK.due("standing " + what, x.told(what), standing[what]);
        }
        Check.tokens(x, 1, 5, 6, 7);
        long[] going = {0, 3, 0, 5, 5, 3};
        for (int what = 0; what <= 5; what++) {
            CHECK.due("going " + what, x.told(what), going[what]);
        }
        x.wire(1, 0, 1, 1);
        long[] uneven = {1, -5, -5, -5, -5, 3};
        for (int what = 0; what <= 5; what++) {
            CHECK.due("uneven " + what, x.told(what), uneven[what]);
        }
        CHECK.due("what 6", x.told(6), -1);
        CHECK.due("what -1", x.told(-1), -1);
        CHECK.due("what MAX", x.told(MAX), -1);
    }

    private static void least() {
        BoxFlow x = Check.boxes(0, 0, 0, 0);
        x.wire(0, 1, 1, 2);
        x.wire(0, 1, 1, 2);
        CHECK.due("2 and 1: no choice", x.told(4), 4);
        BoxFlow y = Check.boxes(0, 0, 0, 0);
        y.wire(0, 1, 2, 3);
        CHECK.due("by that order", y.told(3), 6);
        CHECK.due("by the best", y.told(4), 4);
        y.token(0, 1);
        CHECK.due("with a token", y.told(4), 4);
        Check.tokens(y, 0, 1, 1, 1, 1);
        CHECK.due("5 tokens at first", y.told(4), 5);
        CHECK.due("5 tokens at first", y.told(3), 11);
        BoxFlow nine = Check.boxes(0, 0, 0, 0, 0, 0);
        nine.wire(0, 1, 3, 4);
        CHECK.due("8 together", nine.told(1), 8);
        CHECK.due("8 together", nine.told(4), 6);
        nine.box(0, 0);
        CHECK.due("9 together", nine.told(1), 9);
        CHECK.due("9 together", nine.told(4), -5);
        BoxFlow room = Check.boxes(0, 0, 0, 0);
        room.wire(0, 1, 1, 1);
        for (int k = 0; k < 99; k++) {
            room.token(0, k);
        }
        CHECK.due("only the other order has room", room.told(4), 99);
        CHECK.due("and the period finds it", room.told(2), 0);
    }

    private static void when() {
        BoxFlow x = Check.boxes(0, 0, 0, 0);
        x.wire(0, 1, 2, 3);
        x.wire(1, 0, 3, 2);
        CHECK.due("k -1", x.when(-1), -1);
        CHECK.due("k MIN", x.when(MIN), -1);
        CHECK.due("nothing fires", x.when(0), -5);
        Check.tokens(x, 1, 1, 2, 3);
        CHECK.due("one fires till it stands", x.when(0), 0);
        CHECK.due("no more", x.when(1), -5);
        x.token(1, 4);
        long[] want = {0, 0, 1, 0, 1, -5};
        for (int k = 0; k < 6; k++) {
            CHECK.due("when " + k, x.when(k), want[k]);
        }
        CHECK.due("k MAX", x.when(MAX), -5);
        x.wire(0, 0, 1, 2);
        CHECK.due("uneven", x.when(0), -5);
        CHECK.due("uneven, k -1", x.when(-1), -1);
        CHECK.due("what is asked changes nothing", x.of(0, 2), 0);
    }
}
