/** Promises 1 to 10 but graph(): boxes, wires, tokens, the text, and what they are. */
public final class BoxesTest {
    private static final Check CHECK = new Check();
    private static final long NO = BoxFlow.NO;
    private static final int MIN = Integer.MIN_VALUE, MAX = Integer.MAX_VALUE;

    public static void main(String[] args) {
        aNewObject();
        boxes();
        wires();
        tokens();
        cuts();
        feeds();
        kindsAndNumbers();
        times();
        readiness();
        feedback();
        wiresOfBoxes();
        held();
        need();
        reads();
        CHECK.end("BoxesTest");
    }

    private static void aNewObject() {
        BoxFlow x = new BoxFlow();
        for (int what = 0; what <= 6; what++) {
            CHECK.due("new count " + what, x.count(what), 0);
        }
        CHECK.due("new undo", x.undo(), -3);
        CHECK.due("new of", x.of(0, 0), -1);
        CHECK.due("new about", x.about(0, 0), -1);
        CHECK.due("new looked", x.looked(), -5);
        for (int what = 0; what <= 5; what++) {
            CHECK.due("new told " + what, x.told(what), 0);
        }
        CHECK.due("new graph", x.graph(), -10);
        for (int tape = 0; tape < 6; tape++) {
            CHECK.due("new item", x.item(tape, 0, 1), -11);
        }
        CHECK.due("NONE", BoxFlow.NONE, -1);
        CHECK.due("BAD", BoxFlow.BAD, -2);
        CHECK.due("STATE", BoxFlow.STATE, -3);
        CHECK.due("FULL", BoxFlow.FULL, -4);
        CHECK.due("NO", BoxFlow.NO, Long.MIN_VALUE);
    }

    private static void boxes() {
        BoxFlow x = new BoxFlow();
        CHECK.due("kind ahead of v", x.box(-1, -1), -1);
        CHECK.due("kind 5", x.box(5, 0), -1);
        CHECK.due("kind MAX", x.box(MAX, 0), -1);
        CHECK.due("v -1", x.box(0, -1), -2);
        CHECK.due("v 10", x.box(4, 10), -2);
        CHECK.due("v MIN", x.box(4, MIN), -2);
        for (int b = 0; b < 6; b++) {
            CHECK.due("box", x.box(b % 5, b == 5 ? 9 : b), b);
        }
        CHECK.due("7th", x.box(0, 0), -4);
        CHECK.due("7th, bad v", x.box(0, 10), -2);
        CHECK.due("7th, no kind", x.box(7, 10), -1);
        CHECK.due("boxes", x.count(0), 6);
        CHECK.due("v 9", x.of(5, 1), 9);
    }

    private static void wires() {
        BoxFlow x = Check.boxes(0, 1, 1, 2);
        CHECK.due("from -1", x.wire(-1, 0, 1, 1), -1);
        CHECK.due("from 2, bad puts", x.wire(2, 0, 9, 1), -1);
        CHECK.due("to 2", x.wire(0, 2, 0, 0), -1);
        CHECK.due("to MIN", x.wire(0, MIN, 1, 1), -1);
        CHECK.due("puts 0", x.wire(0, 1, 0, 1), -2);
        CHECK.due("puts 5", x.wire(0, 1, 5, 1), -2);
        CHECK.due("takes 0", x.wire(0, 1, 1, 0), -2);
        CHECK.due("takes 5", x.wire(0, 1, 4, 5), -2);
        CHECK.due("itself", x.wire(1, 1, 4, 4), 0);
        for (int w = 1; w < 8; w++) {
            CHECK.due("wire", x.wire(0, 1, 1, 2), w);
        }
        CHECK.due("9th", x.wire(0, 1, 1, 1), -4);
        CHECK.due("9th, bad", x.wire(0, 1, 1, 5), -2);
        CHECK.due("9th, none", x.wire(0, 6, 1, 5), -1);
        x.cut(3);
        CHECK.due("9th behind a cut", x.wire(0, 1, 1, 1), -4);
        CHECK.due("came", x.count(1), 8);
        CHECK.due("there", x.count(2), 7);
    }

    private static void tokens() {
        BoxFlow x = Check.boxes(0, 1);
        CHECK.due("no wire", x.token(0, 1), -1);
        x.wire(0, 0, 1, 1);
        CHECK.due("wire -1", x.token(-1, 1), -1);
        CHECK.due("wire 1", x.token(1, 1), -1);
        CHECK.due("wire MAX", x.token(MAX, 1), -1);
        for (int k = 1; k <= 99; k++) {
            CHECK.due("token", x.token(0, 1000 + k), k);
        }
        CHECK.due("100th", x.token(0, 5), -4);
        CHECK.due("first", x.read(0, 0), 1001);
        CHECK.due("last", x.read(0, 98), 1099);
        CHECK.due("beyond", x.read(0, 99), NO);
        CHECK.due("tokens", x.told(5), 99);
    }

    private static void cuts() {
        BoxFlow x = Check.boxes(0, 1, 0, 1);
        x.wire(0, 1, 1, 1);
        x.wire(1, 0, 2, 1);
        Check.tokens(x, 1, 4, 5, 6);
        CHECK.due("cut -1", x.cut(-1), -1);
        CHECK.due("cut 2", x.cut(2), -1);
        CHECK.due("uneven ahead", x.told(0), 1);
        CHECK.due("cut", x.cut(1), 3);
        CHECK.due("cut again", x.cut(1), -1);
        CHECK.due("even behind", x.told(0), 0);
        CHECK.due("tokens behind", x.told(5), 0);
        CHECK.due("no token on it", x.token(1, 1), -1);
        CHECK.due("nothing about it", x.about(1, 0), -1);
        CHECK.due("nothing to read", x.read(1, 0), NO);
        CHECK.due("its number isn't given again", x.wire(0, 1, 1, 1), 2);
        CHECK.due("cut without tokens", x.cut(2), 0);
    }

    private static void feeds() {
        BoxFlow x = new BoxFlow();
        CHECK.due("-1", x.feed(-1), -2);
        CHECK.due("128", x.feed(128), -2);
        CHECK.due("MIN", x.feed(MIN), -2);
        CHECK.due("0", x.feed(0), 1);
        CHECK.due("127", x.feed(127), 2);
        for (int k = 3; k <= 100; k++) {
            CHECK.due("feed", x.feed(48), k);
        }
        CHECK.due("101st", x.feed(48), -4);
        CHECK.due("101st, bad", x.feed(128), -2);
        CHECK.due("bytes", x.count(6), 100);
        CHECK.due("fault at 0", x.graph(), -10);
        CHECK.due("empty then", x.count(6), 0);
    }

    private static void kindsAndNumbers() {
        BoxFlow x = Check.boxes(3, 7, 4, 0);
        CHECK.due("kind", x.of(0, 0), 3);
        CHECK.due("kind", x.of(1, 0), 4);
        CHECK.due("v", x.of(0, 1), 7);
        CHECK.due("fired", x.of(0, 2), 0);
        x.fire(0);
        x.fire(0);
        CHECK.due("fired twice", x.of(0, 2), 2);
        CHECK.due("other's fired", x.of(1, 2), 0);
        CHECK.due("no box", x.of(2, 0), -1);
        CHECK.due("box -1", x.of(-1, 0), -1);
        CHECK.due("what 8", x.of(0, 8), -1);
        CHECK.due("what -1", x.of(0, -1), -1);
    }

    private static void times() {
        BoxFlow x = Check.boxes(0, 0, 0, 0, 0, 0, 0, 0, 0, 0, 0, 0);
        CHECK.due("alone", x.of(5, 3), 1);
        x.wire(0, 1, 4, 2);
        x.wire(2, 3, 3, 2);
        long[] want = {1, 2, 2, 3, 1, 1};
        for (int b = 0; b < 6; b++) {
            CHECK.due("two lots, each the least " + b, x.of(b, 3), want[b]);
        }
        CHECK.due("together", x.told(1), 10);
        x.wire(1, 2, 1, 3);
        long[] joined = {3, 6, 2, 3, 1, 1};
        for (int b = 0; b < 6; b++) {
            CHECK.due("joined " + b, x.of(b, 3), joined[b]);
        }
        x.wire(3, 0, 2, 2);
        CHECK.due("the round fits", x.told(0), 0);
        x.wire(3, 0, 1, 2);
        CHECK.due("it doesn't", x.told(0), 1);
        CHECK.due("uneven for all", x.of(5, 3), -5);
        x.cut(4);
        CHECK.due("even again", x.of(5, 3), 1);
        x.wire(4, 4, 1, 2);
        CHECK.due("itself, uneven", x.told(0), 1);
        x.cut(5);
        x.wire(4, 4, 3, 3);
        CHECK.due("itself, even", x.told(0), 0);

        BoxFlow far = Check.boxes(0, 0, 0, 0, 0, 0, 0, 0, 0, 0);
        far.wire(0, 1, 4, 1);
        far.wire(1, 2, 4, 1);
        far.wire(2, 3, 3, 1);
        CHECK.due("48", far.of(3, 3), 48);
        far.wire(3, 4, 4, 3);
        CHECK.due("64 is above 60", far.of(4, 3), -5);
        far.cut(3);
        far.wire(3, 4, 3, 3);
        CHECK.due("even", far.told(1), 1 + 4 + 16 + 48 + 48);
        CHECK.due("so many go", far.told(2), 0);
        CHECK.due("the last one", far.when(116), 4);
        CHECK.due("no more", far.when(117), -5);

        BoxFlow sixty = Check.boxes(0, 0, 0, 0, 0, 0, 0, 0);
        sixty.wire(0, 1, 4, 1);
        sixty.wire(1, 2, 4, 1);
        sixty.wire(2, 3, 4, 1);
        CHECK.due("64", sixty.told(1), -5);
        CHECK.due("64, stands", sixty.told(2), -5);

        BoxFlow late = Check.boxes(0, 0, 0, 0, 0, 0);
        late.wire(1, 2, 1, 3);
        late.wire(0, 2, 1, 2);
        late.wire(0, 1, 2, 3);
        CHECK.due("two ways that don't agree", late.of(0, 3), -5);
        late.cut(2);
        late.wire(0, 1, 3, 2);
        CHECK.due("late 0", late.of(0, 3), 2);
        CHECK.due("late 1", late.of(1, 3), 3);
        CHECK.due("late 2", late.of(2, 3), 1);
    }

    private static void readiness() {
        BoxFlow x = Check.boxes(0, 0, 0, 0);
        CHECK.due("no wires", x.of(0, 4), 1);
        x.wire(0, 1, 2, 3);
        x.wire(1, 1, 4, 1);
        CHECK.due("nothing to take", x.of(1, 4), 0);
        Check.tokens(x, 0, 1, 2);
        Check.tokens(x, 1, 9);
        CHECK.due("two of three", x.of(1, 4), 0);
        x.token(0, 3);
        CHECK.due("three of three", x.of(1, 4), 1);
        for (int k = 0; k < 95; k++) {
            x.token(1, k);
        }
        CHECK.due("96 on itself: 99 behind", x.of(1, 4), 1);
        x.token(1, 0);
        CHECK.due("97 on itself: 100 behind", x.of(1, 4), 0);
        for (int k = 0; k < 94; k++) {
            x.token(0, k);
        }
        CHECK.due("97 and 2", x.of(0, 4), 1);
        x.token(0, 1);
        CHECK.due("98 and 2", x.of(0, 4), 0);
        CHECK.due("fire refused", x.fire(0), NO);
        x.cut(0);
        CHECK.due("cut wires don't matter", x.of(0, 4), 1);
    }

    private static void feedback() {
        BoxFlow x = Check.boxes(0, 0, 0, 0, 0, 0, 0, 0, 0, 0, 0, 0);
        x.wire(0, 1, 1, 1);
        x.wire(1, 2, 1, 1);
        CHECK.due("a chain", x.of(1, 5), 0);
        x.wire(2, 0, 1, 1);
        x.wire(2, 3, 1, 1);
        x.wire(3, 4, 1, 2);
        x.wire(4, 3, 2, 3);
        x.wire(5, 5, 1, 1);
        CHECK.due("round 0", x.of(0, 5), 7);
        CHECK.due("round 1", x.of(1, 5), 7);
        CHECK.due("round 2", x.of(2, 5), 7);
        CHECK.due("round 3, even where uneven", x.of(3, 5), 24);
        CHECK.due("round 4", x.of(4, 5), 24);
        CHECK.due("itself", x.of(5, 5), 32);
        x.cut(2);
        CHECK.due("cut", x.of(0, 5), 0);

        BoxFlow long6 = Check.boxes(0, 0, 0, 0, 0, 0, 0, 0, 0, 0, 0, 0);
        for (int b = 5; b > 0; b--) {
            long6.wire(b, b - 1, 1, 1);
        }
        long6.wire(0, 5, 1, 1);
        CHECK.due("all six", long6.of(3, 5), 63);
    }

    private static void wiresOfBoxes() {
        BoxFlow x = Check.boxes(0, 0, 0, 0);
        x.wire(0, 1, 1, 1);
        x.wire(1, 0, 1, 1);
        x.wire(1, 1, 1, 1);
        for (int w = 3; w < 8; w++) {
            x.wire(0, 1, 1, 1);
        }
        CHECK.due("to 1", x.of(1, 6), 253);
        CHECK.due("from 1", x.of(1, 7), 6);
        CHECK.due("to 0", x.of(0, 6), 2);
        CHECK.due("from 0", x.of(0, 7), 249);
        x.cut(7);
        x.cut(2);
        CHECK.due("to 1, cut", x.of(1, 6), 121);
        CHECK.due("from 1, cut", x.of(1, 7), 2);
    }

    private static void held() {
        BoxFlow x = Check.boxes(0, 0, 0, 0);
        x.wire(0, 1, 2, 3);
        long[] want = {0, 1, 2, 3, 0, 6};
        for (int what = 0; what <= 5; what++) {
            CHECK.due("about " + what, x.about(0, what), want[what]);
        }
        CHECK.due("hold", x.told(3), 6);
        CHECK.due("what 7", x.about(0, 7), -1);
        CHECK.due("what -1", x.about(0, -1), -1);
        CHECK.due("wire 1", x.about(1, 5), -1);
        CHECK.due("wire MIN", x.about(MIN, 5), -1);
        x.wire(1, 0, 3, 2);
        CHECK.due("stands at once", x.about(0, 5), 0);
        Check.tokens(x, 1, 1, 2, 3);
        CHECK.due("one firing, then it stands", x.told(2), 1);
        CHECK.due("held till it stands", x.about(0, 5), 2);
        CHECK.due("held at first", x.about(1, 5), 3);
        CHECK.due("hold till it stands", x.told(3), 5);
        x.wire(1, 1, 1, 1);
        Check.tokens(x, 2, 1, 2);
        CHECK.due("hold of all", x.told(3), 7);
        x.cut(2);
        CHECK.due("a cut wire holds nothing", x.told(3), 5);
        x.wire(0, 0, 1, 2);
        CHECK.due("uneven", x.about(0, 5), -5);
        CHECK.due("uneven", x.told(3), -5);
    }

    private static void need() {
        BoxFlow x = Check.boxes(0, 0, 0, 0);
        x.wire(0, 1, 2, 3);
        x.wire(1, 0, 3, 2);
        CHECK.due("a round", x.about(1, 6), 4);
        CHECK.due("the other way", x.about(0, 6), 4);
        Check.tokens(x, 1, 1, 2);
        CHECK.due("others as now", x.about(0, 6), 2);
        CHECK.due("its own don't matter", x.about(1, 6), 4);
        CHECK.due("what is asked changes nothing", x.about(1, 4), 2);
        x.wire(0, 0, 1, 1);
        CHECK.due("stands by all", x.about(1, 6), -5);
        CHECK.due("itself", x.about(2, 6), -5);
        Check.tokens(x, 1, 1, 2);
        CHECK.due("itself needs one", x.about(2, 6), 1);
        x.wire(0, 0, 1, 2);
        CHECK.due("uneven", x.about(2, 6), -5);

        BoxFlow chain = Check.boxes(0, 0, 0, 0, 0, 0, 0, 0);
        chain.wire(0, 1, 4, 1);
        chain.wire(1, 2, 4, 4);
        chain.wire(2, 0, 1, 4);
        CHECK.due("4", chain.about(2, 6), 4);

        BoxFlow twenty = Check.boxes(0, 0, 0, 0);
        twenty.wire(1, 0, 4, 4);
        twenty.wire(1, 0, 4, 4);
        Check.tokens(twenty, 1, 1);
        CHECK.due("0 is enough", twenty.about(0, 6), 0);

        BoxFlow six = Check.boxes(0, 0, 0, 0, 0, 0, 0, 0, 0, 0, 0, 0);
        Check.graph(six, "0:4>1:3;1:1>2:1;2:4>3:4;3:1>4:3;4:3>5:2;5:3>0:2");
        CHECK.due("20", six.about(2, 6), 20);
        six = Check.boxes(0, 0, 0, 0, 0, 0, 0, 0, 0, 0, 0, 0);
        Check.graph(six, "0:4>1:1;1:2>2:3;2:3>3:1;3:2>4:3;4:3>5:4;5:1>0:4");
        CHECK.due("21 is above 20", six.about(3, 6), -5);

        BoxFlow full = Check.boxes(0, 0, 0, 0);
        full.wire(0, 1, 1, 1);
        full.wire(0, 1, 4, 4);
        for (int k = 0; k < 96; k++) {
            full.token(1, k);
        }
        CHECK.due("no room ahead: needs one token", full.about(0, 6), 1);
    }

    private static void reads() {
        BoxFlow x = Check.boxes(0, 0);
        x.wire(0, 0, 1, 1);
        Check.tokens(x, 0, MIN, MAX, -1);
        CHECK.due("0", x.read(0, 0), MIN);
        CHECK.due("1", x.read(0, 1), MAX);
        CHECK.due("2", x.read(0, 2), -1);
        CHECK.due("3", x.read(0, 3), NO);
        CHECK.due("-1", x.read(0, -1), NO);
        CHECK.due("wire 1", x.read(1, 0), NO);
        CHECK.due("wire -1", x.read(-1, 0), NO);
        CHECK.due("MAX", x.read(MAX, MAX), NO);
    }
}
