/** Edges of promise 7: THE TEXT, its CLAUSES, the FAULT, and wires that don't come. */
public final class EdgesGraphTest {
    private static final Check CHECK = new Check();
    private static final String DIGITS = "0123456789", RATES = "1234";

    public static void main(String[] args) {
        emptyText();
        eachSign();
        endsTooEarly();
        clausesOneToEight();
        tokensOneToSix();
        digitsOneToThree();
        hundredBytes();
        emptyThen();
        faultBringsNothing();
        boxesThatAreNot();
        moreThanEightWires();
        aCutOneHasCome();
        tokensThatCome();
        leavesTheRest();
        CHECK.end("EdgesGraphTest");
    }

    private static BoxFlow two() {
        return Check.boxes(0, 0, 0, 0);
    }

    private static void read(String text, int want) {
        BoxFlow x = two();
        CHECK.due(text, Check.graph(x, text), want);
        CHECK.due("wires behind " + text, x.count(1), Math.max(0, want));
        CHECK.due("bytes behind " + text, x.count(6), 0);
    }

    private static void fault(String text, int place) {
        read(text, -10 - place);
    }

    /** "CLAUSES, 1 to 8": none is too few; "(the end of THE TEXT, if it ends too early)". */
    private static void emptyText() {
        fault("", 0);
        BoxFlow x = two();
        CHECK.due("again", x.graph(), -10);
        CHECK.due("again", x.graph(), -10);
    }

    /**
     * "The FAULT: the place of the first byte with which none begins so": behind each beginning every sign 0 .. 127,
     * those that may follow and all others.
     */
    private static void eachSign() {
        follow("", DIGITS, "");
        follow("0", ":", "");
        follow("0:", RATES, "");
        follow("0:4", ">", "");
        follow("0:4>", DIGITS, "");
        follow("0:4>1", ":", "");
        follow("0:4>1:", "", RATES);
        follow("0:4>1:1", "+;", "");
        follow("0:4>1:1+", "", DIGITS);
        follow("0:4>1:1+9", ",;", DIGITS);
        follow("0:4>1:1+98", ",;", DIGITS);
        follow("0:4>1:1+987", ",;", "");
        follow("0:4>1:1+987,", "", DIGITS);
        follow("0:4>1:1+9,0", ",;", DIGITS);
        follow("0:4>1:1+9,00", ",;", DIGITS);
        follow("0:4>1:1+9,000", ",;", "");
        follow("0:4>1:1+1,2,3,4,5", ",;", DIGITS);
        follow("0:4>1:1+1,2,3,4,5,", "", DIGITS);
        follow("0:4>1:1+1,2,3,4,5,6", ";", DIGITS);
        follow("0:4>1:1+1,2,3,4,5,666", ";", "");
        follow("0:4>1:1;", DIGITS, "");
        follow("0:4>1:1+9;", DIGITS, "");
        follow("0:4>1:1;1", ":", "");
        follow("0:4>1:1;1:", RATES, "");
        follow("0:4>1:1;1:1>1:", "", RATES);
    }

    /** Behind a beginning: signs by which it goes on, but isn't whole, and signs by which it is whole. */
    private static void follow(String beginning, String goesOn, String whole) {
        int wires = beginning.split(";", -1).length;
        for (int sign = 0; sign <= 127; sign++) {
            String text = beginning + (char) sign;
            if (whole.indexOf(sign) >= 0) {
                read(text, wires);
            } else {
                fault(text, goesOn.indexOf(sign) >= 0 ? text.length() : beginning.length());
            }
        }
    }

    /** "(the end of THE TEXT, if it ends too early)": each beginning of a text that isn't whole. */
    private static void endsTooEarly() {
        String text = "0:2>1:3+5,70,999;1:1>1:1;1:4>0:4+0";
        int[] whole = {7, 9, 11, 12, 14, 15, 16, 24, 32, 34};
        int next = 0;
        for (int length = 0; length <= text.length(); length++) {
            if (length == whole[next]) {
                next++;
                read(text.substring(0, length), length <= 16 ? 1 : length <= 24 ? 2 : 3);
            } else {
                fault(text.substring(0, length), length);
            }
        }
        CHECK.due("all that are whole", next, whole.length);
    }

    /** "CLAUSES, 1 to 8, with ; between". */
    private static void clausesOneToEight() {
        String clause = "1:1>0:1";
        StringBuilder text = new StringBuilder();
        for (int clauses = 1; clauses <= 8; clauses++) {
            text.append(clauses == 1 ? "" : ";").append(clause);
            read(text.toString(), clauses);
        }
        fault(text + ";", 63);
        fault(text + ";" + clause, 63);
        fault(text + "+1;" + clause, 65);
        fault(text + "+;" + clause, 64);
        fault(";" + clause, 0);
        fault(clause + ";;" + clause, 8);
    }

    /** "TOKENS (.. 1 to 6 of them, with , between)". */
    private static void tokensOneToSix() {
        StringBuilder text = new StringBuilder("0:1>1:1+");
        fault(text.toString(), 8);
        for (int tokens = 1; tokens <= 6; tokens++) {
            text.append(tokens == 1 ? "" : ",").append(tokens);
            BoxFlow x = two();
            CHECK.due(text.toString(), Check.graph(x, text.toString()), 1);
            CHECK.due("tokens of " + text, x.about(0, 4), tokens);
            CHECK.due("the earliest", x.read(0, 0), 1);
            CHECK.due("the latest", x.read(0, tokens - 1), tokens);
        }
        fault(text + ",", 19);
        fault(text + ",7", 19);
        fault("0:1>1:1+,1", 8);
    }

    /** "1 to 3 digits each". */
    private static void digitsOneToThree() {
        String[] told = {"0", "9", "00", "10", "99", "000", "001", "100", "999"};
        int[] values = {0, 9, 0, 10, 99, 0, 1, 100, 999};
        for (int k = 0; k < told.length; k++) {
            BoxFlow x = two();
            CHECK.due(told[k], Check.graph(x, "0:1>1:1+" + told[k] + ",7"), 1);
            CHECK.due("value of " + told[k], x.read(0, 0), values[k]);
            CHECK.due("the next one", x.read(0, 1), 7);
        }
        fault("0:1>1:1+0000", 11);
        fault("0:1>1:1+1000", 11);
        fault("0:1>1:1+7,1000", 13);
        fault("0:1>1:1+1,2,3,4,5,1000", 21);
        fault("0:1>1:1+-1", 8);
    }

    /** "THE TEXT (bytes, 100 at most)": the fault may stand at any place up to its end. */
    private static void hundredBytes() {
        CHECK.due("bytes", States.LONG.length(), 100);
        read(States.LONG, 4);
        fault(States.LONG.substring(0, 99), 99);
        fault(States.LONG.substring(0, 99) + "5", 99);
        fault(States.LONG.substring(0, 98) + "33", 98);
        String three = "0:1>0:1+111,222,333,444,555,666;".repeat(3);
        fault(three + "0:1>", 100);
        fault(three + "0:1:", 99);
        read(three.substring(0, 95), 3);
        fault(three.substring(0, 96), 96);
        BoxFlow x = two();
        Check.feed(x, three + "0:1>");
        CHECK.due("no 101st byte", x.feed('0'), -4);
        CHECK.due("a full text's end", x.graph(), -110);
    }

    /** "THE TEXT, which is empty then": whether it was a graph or not. */
    private static void emptyThen() {
        BoxFlow x = two();
        CHECK.due("whole", Check.graph(x, "0:1>1:1"), 1);
        CHECK.due("empty", x.count(6), 0);
        CHECK.due("an empty text", x.graph(), -10);
        CHECK.due("a fault", Check.graph(x, "0:1>1:"), -16);
        CHECK.due("empty", x.count(6), 0);
        CHECK.due("not behind the old one", x.feed('1'), 1);
        CHECK.due("a fault", x.graph(), -11);
        CHECK.due("one wire", x.count(1), 1);
    }

    /** "-10 less the FAULT": a text that is no graph brings no wire, though its first clauses are whole. */
    private static void faultBringsNothing() {
        BoxFlow x = two();
        CHECK.due("a fault in the second", Check.graph(x, "0:1>1:1+5;0:1>1:5"), -26);
        CHECK.due("a fault at the end", Check.graph(x, "0:1>1:1+5;"), -20);
        CHECK.due("none came", x.count(1), 0);
        CHECK.due("no tokens", x.told(5), 0);
        CHECK.due("a shorter one", Check.graph(x, "1:2>1:2"), 1);
        CHECK.due("one came", x.count(1), 1);
        CHECK.due("no tokens of the old ones", x.about(0, 4), 0);
    }

    /** "where wire() would be refused, none does": boxes up to the last one that is there, and the first that isn't. */
    private static void boxesThatAreNot() {
        BoxFlow x = new BoxFlow();
        for (int boxes = 0; boxes <= 6; boxes++) {
            int last = boxes - 1;
            if (boxes > 0) {
                CHECK.due("a box more", x.box(0, 0), last);
                CHECK.due("to the last", Check.graph(x, "0:1>" + last + ":1"), 1);
            }
            CHECK.due("from one that isn't", Check.graph(x, boxes + ":1>0:1+5"), 0);
            CHECK.due("to one that isn't", Check.graph(x, "0:1>" + boxes + ":1+5"), 0);
            CHECK.due("from 9", Check.graph(x, "9:1>0:1"), 0);
            CHECK.due("wires", x.count(1), boxes);
        }
        BoxFlow y = two();
        CHECK.due("those between come", Check.graph(y, "2:1>0:1+1;1:2>1:2+2;0:1>2:1+3;0:3>1:3+4"), 2);
        CHECK.due("the first", y.read(0, 0), 2);
        CHECK.due("the second", y.read(1, 0), 4);
        CHECK.due("no third", y.about(2, 4), -1);
    }

    /** "where wire() would be refused": 8 came. */
    private static void moreThanEightWires() {
        String clause = ";0:1>1:1+7";
        for (int there = 0; there <= 8; there++) {
            BoxFlow x = two();
            for (int w = 0; w < there; w++) {
                x.wire(0, 0, 1, 1);
            }
            CHECK.due("two, " + there + " there", Check.graph(x, clause.repeat(2).substring(1)), Math.min(2, 8 - there));
            CHECK.due("eight, " + there + " there", Check.graph(x, "0:1>1:1" + ";0:1>1:1".repeat(7)),
                Math.max(0, 6 - there));
            CHECK.due("came", x.count(1), 8);
            CHECK.due("tokens", x.told(5), Math.min(2, 8 - there));
            CHECK.due("no more", Check.graph(x, "0:1>1:1"), 0);
            CHECK.due("a fault all the same", Check.graph(x, "0:1>1:"), -16);
        }
    }

    /** "its number isn't given again". */
    private static void aCutOneHasCome() {
        BoxFlow x = two();
        Check.graph(x, "0:1>1:1+1;0:1>1:1+2");
        x.cut(1);
        CHECK.due("one more", Check.graph(x, "1:1>1:1+3"), 1);
        CHECK.due("it is wire 2", x.read(2, 0), 3);
        CHECK.due("wire 1 stays cut", x.about(1, 4), -1);
        Check.graph(x, "0:1>1:1" + ";0:1>1:1".repeat(4));
        CHECK.due("8 came", x.count(1), 8);
        x.cut(7);
        CHECK.due("none comes", Check.graph(x, "0:1>1:1"), 0);
    }

    /** "a WIRE comes with these TOKENS": none is left of what an older text or wire had. */
    private static void tokensThatCome() {
        BoxFlow x = two();
        Check.graph(x, "0:1>1:1+1,2,3,4,5,6;1:1>1:1+9");
        CHECK.due("six", x.about(0, 4), 6);
        CHECK.due("one", x.about(1, 4), 1);
        Check.graph(x, "0:1>1:1;1:1>1:1+7,8");
        CHECK.due("none", x.about(2, 4), 0);
        CHECK.due("two", x.about(3, 4), 2);
        CHECK.due("behind them", x.token(3, 10), 3);
        CHECK.due("the earliest", x.read(3, 0), 7);
        CHECK.due("the latest", x.read(3, 2), 10);
    }

    /** A graph brings wires and empties the text; the boxes, SEEN, the plan, the book and the tapes stay. */
    private static void leavesTheRest() {
        BoxFlow x = States.some();
        CHECK.due("a fault", x.graph(), -26);
        int[] want = {4, 5, 4, 2, 3, 3, 0};
        for (int what = 0; what <= 6; what++) {
            CHECK.due("count " + what, x.count(what), want[what]);
        }
        CHECK.due("the tape", x.peek(2, 2), -4);
        CHECK.due("the book", x.looked(), -5);
        CHECK.due("the image", x.undo(), 3);
    }
}
