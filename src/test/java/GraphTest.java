/** Promise 7: graphs read from texts. */
public final class GraphTest {
    private static final Check CHECK = new Check();

    public static void main(String[] args) {
        faults();
        limits();
        wiresCome();
        refusedWires();
        CHECK.end("GraphTest");
    }

    private static void fault(String text, int place) {
        BoxFlow x = Check.boxes(0, 0, 0, 0);
        CHECK.due("fault of " + text, Check.graph(x, text), -10 - place);
        CHECK.due("the text is empty behind " + text, x.count(6), 0);
        CHECK.due("no wire came behind " + text, x.count(1), 0);
    }

    private static void faults() {
        fault("", 0);
        String whole = "0:2>1:3+5,7;1:1>0:1";
        for (int length = 1; length < 7; length++) {
            fault(whole.substring(0, length), length);
        }
        fault("0:2>1:3+", 8);
        fault("0:2>1:3+5,", 10);
        fault("0:2>1:3+5,7;", 12);
        fault("0:2>1:3+5,7;1:", 14);
        fault(" 0:2>1:3", 0);
        fault("x:2>1:3", 0);
        fault("0.2>1:3", 1);
        fault("0:0>1:3", 2);
        fault("0:5>1:3", 2);
        fault("0:2-1:3", 3);
        fault("0:22>1:3", 3);
        fault("0:2>:3", 4);
        fault("0:2>1;3", 5);
        fault("0:2>1:0", 6);
        fault("0:2>1:5", 6);
        fault("0:2>1:3 ", 7);
        fault("0:2>1:33", 7);
        fault("0:2>1:3,5", 7);
        fault("0:2>1:3++", 8);
        fault("0:2>1:3+-5", 8);
        fault("0:2>1:3+1234", 11);
        fault("0:2>1:3+123,1234", 15);
        fault("0:2>1:3+5,,7", 10);
        fault("0:2>1:3+5;;", 10);
        fault("0:2>1:3;;", 8);
        fault("0:2>1:3+1,2,3,4,5,6,7", 19);
        fault("0:2>1:3+1,2,3,4,5,6,", 19);
        fault("0:2>1:3+1,2,3,4,5,6+", 19);
        fault("0:/>1:3", 2);
        fault("/:1>1:3", 0);
        fault("::1>1:3", 0);
        fault("0:1>1:3+/", 8);
        fault("0:1>1:3+:", 8);
        fault("0:1>1:3+1:", 9);
        fault("0:1>1:3+1/", 9);
        fault("0:1>1:3+12:", 10);
        fault("0:2>1:3;0:2>1", 13);
    }

    private static void limits() {
        String clause = "0:1>0:1;";
        String eight = clause.repeat(7) + "0:1>0:1";
        BoxFlow x = Check.boxes(0, 0);
        CHECK.due("eight clauses", Check.graph(x, eight), 8);
        fault(eight + ";", 63);
        fault(eight + ";0:1>0:1", 63);
        BoxFlow y = Check.boxes(0, 0);
        String full = "0:1>0:1+111,222,333,444,555,666;".repeat(3);
        CHECK.due("100 bytes", Check.feed(y, full + "0:1>"), 100);
        CHECK.due("the end of a full text", y.graph(), -110);
        CHECK.due("96 bytes with a ; at the end", Check.graph(y, full), -106);
        CHECK.due("95 bytes", Check.graph(y, full.substring(0, 95)), 3);
        CHECK.due("its tokens", y.told(5), 18);
    }

    private static void wiresCome() {
        BoxFlow x = Check.boxes(0, 0, 0, 0);
        CHECK.due("two wires", Check.graph(x, "0:2>1:3+5,70,999;1:1>0:4"), 2);
        long[] first = {0, 1, 2, 3, 3};
        long[] second = {1, 0, 1, 4, 0};
        for (int what = 0; what <= 4; what++) {
            CHECK.due("about 0 " + what, x.about(0, what), first[what]);
            CHECK.due("about 1 " + what, x.about(1, what), second[what]);
        }
        CHECK.due("5", x.read(0, 0), 5);
        CHECK.due("70", x.read(0, 1), 70);
        CHECK.due("999", x.read(0, 2), 999);
        CHECK.due("behind those", Check.graph(x, "1:4>1:4+007,0"), 1);
        CHECK.due("wire 2", x.read(2, 0), 7);
        CHECK.due("wire 2", x.read(2, 1), 0);
        CHECK.due("came", x.count(1), 3);
        CHECK.due("fewer tokens than a clause ahead had", Check.graph(x, "1:4>1:4+1"), 1);
        CHECK.due("one token", x.about(3, 4), 1);
        CHECK.due("none", Check.graph(x, "1:4>1:4"), 1);
        CHECK.due("no token", x.about(4, 4), 0);
    }

    private static void refusedWires() {
        BoxFlow x = Check.boxes(0, 0, 0, 0);
        CHECK.due("no such boxes", Check.graph(x, "2:1>0:1+5;0:1>1:1+6;0:1>9:1+7;1:1>1:1+8"), 2);
        CHECK.due("first that came", x.read(0, 0), 6);
        CHECK.due("second that came", x.read(1, 0), 8);
        CHECK.due("none comes", Check.graph(x, "7:1>7:1"), 0);
        for (int w = 2; w < 7; w++) {
            x.wire(0, 0, 1, 1);
        }
        x.cut(0);
        CHECK.due("room for one", Check.graph(x, "0:1>0:1+1;0:1>0:1+2;0:1>0:1+3"), 1);
        CHECK.due("the first one", x.read(7, 0), 1);
        CHECK.due("full", Check.graph(x, "0:1>0:1"), 0);
        CHECK.due("a fault all the same", Check.graph(x, "0:1>0:"), -16);
    }
}
