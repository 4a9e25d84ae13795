/** Promises 15 to 20: what will be, what was seen, odds and means. */
public final class FutureTest {
    private static final Check CHECK = new Check();
    private static final long NO = BoxFlow.NO;
    private static final int MIN = Integer.MIN_VALUE, MAX = Integer.MAX_VALUE;

    public static void main(String[] args) {
        on();
        then();
        thenStanding();
        see();
        fits();
        fitsWhatCannotBe();
        odds();
        oddsOfAll();
        mean();
        CHECK.end("FutureTest");
    }

    /** Box 0 adds 1 a round, box 1 hands it on. */
    private static BoxFlow round() {
        BoxFlow x = Check.boxes(0, 1, 2, 2);
        x.wire(0, 1, 1, 1);
        x.wire(1, 0, 1, 1);
        Check.tokens(x, 1, 5, 50);
        return x;
    }

    private static void on() {
        BoxFlow x = round();
        for (int n = 0; n <= 9; n++) {
            CHECK.due("on " + n, x.on(n, 1), 2);
            CHECK.due("on " + n, x.on(n, 0), 0);
        }
        CHECK.due("n -1", x.on(-1, 1), -2);
        CHECK.due("n 10", x.on(10, 1), -2);
        CHECK.due("no wire ahead of n", x.on(10, 2), -1);
        CHECK.due("wire -1", x.on(0, -1), -1);
        x.wire(1, 1, 1, 2);
        CHECK.due("uneven", x.on(3, 1), 2);
        x.cut(1);
        CHECK.due("cut", x.on(3, 1), -1);
    }

    private static void then() {
        BoxFlow x = round();
        CHECK.due("now", x.then(0, 1, 0), 5);
        CHECK.due("now", x.then(0, 1, 1), 50);
        CHECK.due("one", x.then(1, 1, 0), 50);
        CHECK.due("one", x.then(1, 1, 1), 6);
        CHECK.due("two", x.then(2, 1, 0), 6);
        CHECK.due("nine", x.then(9, 1, 1), 10);
        CHECK.due("k 2", x.then(1, 1, 2), NO);
        CHECK.due("k -1", x.then(1, 1, -1), NO);
        CHECK.due("n -1", x.then(-1, 1, 0), NO);
        CHECK.due("n 10", x.then(10, 1, 0), NO);
        CHECK.due("wire 2", x.then(1, 2, 0), NO);
        CHECK.due("wire without tokens", x.then(1, 0, 0), NO);
        CHECK.due("MAX", x.then(1, 1, MAX), NO);
        CHECK.due("what is asked changes nothing", x.read(1, 0), 5);
        CHECK.due("what is asked changes nothing", x.of(0, 2), 0);
        x.period(2);
        CHECK.due("so it comes", x.read(1, 0), 6);
    }

    private static void thenStanding() {
        BoxFlow x = Check.boxes(0, 1, 0, 2);
        x.wire(0, 1, 2, 3);
        x.wire(1, 0, 3, 2);
        Check.tokens(x, 1, 7, 8, 9);
        CHECK.due("stands: as now", x.then(5, 1, 0), 7);
        CHECK.due("stands: as now", x.on(5, 0), 0);
        CHECK.due("stands: nothing there", x.then(5, 0, 0), NO);
        x.wire(0, 0, 1, 2);
        CHECK.due("uneven: as now", x.then(5, 1, 2), 9);
    }

    private static void see() {
        BoxFlow x = round();
        CHECK.due("wire 2", x.see(2, 9, 1), -1);
        CHECK.due("wire -2", x.see(-2, 0, 1), -1);
        CHECK.due("n -1", x.see(1, -1, 1), -2);
        CHECK.due("n 5", x.see(1, 5, 1), -2);
        for (int r = 1; r <= 5; r++) {
            CHECK.due("row", x.see(1, r - 1, r), r);
        }
        CHECK.due("6th", x.see(1, 0, 1), -4);
        CHECK.due("6th, bad", x.see(1, 5, 1), -2);
        CHECK.due("6th, none", x.see(2, 5, 1), -1);
        CHECK.due("count", x.count(3), 5);
        CHECK.due("none then, n doesn't matter", x.see(-1, 77, 1), 0);
        CHECK.due("count", x.count(3), 0);
        CHECK.due("one", x.see(0, 4, 1), 1);
    }

    private static void fits() {
        BoxFlow x = round();
        CHECK.due("nothing seen", x.fits(0, 0), 10);
        CHECK.due("nothing seen", x.fits(0, 1), 0);
        x.see(1, 1, 9);
        CHECK.due("5 and 4", x.fits(0, 0), 1);
        CHECK.due("5 and 4", x.fits(0, 1), 4);
        CHECK.due("box 1 is LAST", x.fits(1, 0), 0);
        CHECK.due("box 1 is LAST", x.fits(1, 1), -5);
        x.see(1, 2, 54);
        CHECK.due("50 and 4", x.fits(0, 1), 4);
        x.see(1, 4, 58);
        CHECK.due("50 and 4 and 4", x.fits(0, 1), 4);
        x.see(1, 4, 58);
        x.see(1, 4, 58);
        CHECK.due("five rows", x.fits(0, 0), 1);
        x.see(-1, 0, 0);
        x.see(1, 4, 59);
        CHECK.due("no v twice is 9", x.fits(0, 0), 0);
        x.see(-1, 0, 0);
        x.see(1, 1, 9);
        x.see(1, 3, 14);
        CHECK.due("5 and 4 and 4 is 13", x.fits(0, 0), 0);
        CHECK.due("none", x.fits(0, 1), -5);
        x.see(-1, 0, 0);
        x.see(1, 0, 50);
        CHECK.due("now", x.fits(0, 0), 10);
        x.see(1, 0, 51);
        CHECK.due("not now", x.fits(0, 0), 0);
        CHECK.due("box 2", x.fits(2, 0), -1);
        CHECK.due("box -1", x.fits(-1, 0), -1);
        CHECK.due("what 2", x.fits(0, 2), -1);
        CHECK.due("what -1", x.fits(0, -1), -1);
        CHECK.due("v is as it was", x.of(0, 1), 1);
        BoxFlow most = Check.boxes(3, 2);
        most.wire(0, 0, 1, 1);
        most.token(0, 6);
        most.see(0, 1, 6);
        CHECK.due("0 .. 6", most.fits(0, 0), 7);
        CHECK.due("0 .. 6", most.fits(0, 1), 0);
        most.see(-1, 0, 0);
        most.see(0, 1, 9);
        CHECK.due("9", most.fits(0, 0), 1);
        CHECK.due("9", most.fits(0, 1), 9);
        most.period(1);
        CHECK.due("from now", most.fits(0, 1), 9);
    }

    private static void fitsWhatCannotBe() {
        BoxFlow x = round();
        x.see(0, 0, 0);
        CHECK.due("no token then", x.fits(0, 0), 0);
        x.see(-1, 0, 0);
        x.see(1, 0, 50);
        x.wire(1, 1, 1, 2);
        CHECK.due("uneven, but no period must go", x.fits(0, 0), 10);
        x.see(1, 1, 50);
        CHECK.due("uneven, and as now", x.fits(0, 0), 0);
        x.see(-1, 0, 0);
        x.see(1, 1, 6);
        CHECK.due("uneven", x.fits(0, 0), 0);
        x.cut(2);
        CHECK.due("even", x.fits(0, 1), 1);
        x.wire(1, 1, 1, 1);
        CHECK.due("stands", x.fits(0, 0), 0);
        x.cut(3);
        CHECK.due("goes", x.fits(0, 1), 1);
        x.cut(1);
        CHECK.due("cut", x.fits(0, 0), 0);
        CHECK.due("cut", x.fits(0, 1), -5);
    }

    private static void odds() {
        BoxFlow x = Check.boxes(0, 1, 0, 2);
        x.wire(0, 1, 2, 3);
        x.wire(1, 0, 3, 2);
        CHECK.due("4 .. 9", x.odds(1, 0), 3);
        CHECK.due("4 .. 9", x.odds(1, 1), 5);
        Check.tokens(x, 0, 8);
        CHECK.due("3 .. 9", x.odds(1, 0), 7);
        CHECK.due("3 .. 9", x.odds(1, 1), 10);
        CHECK.due("part 2", x.odds(1, 2), NO);
        CHECK.due("part -1", x.odds(1, -1), NO);
        CHECK.due("wire 2", x.odds(2, 0), NO);
        CHECK.due("wire -1", x.odds(-1, 0), NO);
        CHECK.due("as it was", x.about(1, 4), 0);
        x.wire(0, 0, 1, 2);
        CHECK.due("uneven", x.odds(1, 0), 0);
        CHECK.due("uneven", x.odds(1, 1), 1);
    }

    private static void oddsOfAll() {
        BoxFlow x = Check.boxes(0, 1, 0, 2);
        x.wire(0, 1, 1, 1);
        CHECK.due("always", x.odds(0, 0), 1);
        CHECK.due("always", x.odds(0, 1), 1);
        x.wire(1, 1, 1, 1);
        CHECK.due("never", x.odds(0, 0), 0);
        CHECK.due("never", x.odds(0, 1), 1);
        CHECK.due("1 .. 9", x.odds(1, 0), 9);
        x.cut(1);
        x.wire(0, 0, 4, 4);
        x.wire(0, 0, 1, 1);
        x.token(3, 1);
        CHECK.due("4 .. 9", x.odds(2, 0), 3);
        CHECK.due("4 .. 9", x.odds(2, 1), 5);
    }

    private static void mean() {
        BoxFlow x = Check.boxes(0, 1);
        CHECK.due("none", x.mean(0), NO);
        x.wire(0, 0, 1, 1);
        x.wire(0, 0, 1, 1);
        CHECK.due("none", x.mean(1), NO);
        Check.tokens(x, 0, -4);
        CHECK.due("-4 by 1", x.mean(0), -4);
        CHECK.due("-4 by 1", x.mean(1), 1);
        Check.tokens(x, 0, -6);
        Check.tokens(x, 1, 1, -1);
        CHECK.due("-10 by 4", x.mean(0), -5);
        CHECK.due("-10 by 4", x.mean(1), 2);
        CHECK.due("part 2", x.mean(2), NO);
        CHECK.due("part -1", x.mean(-1), NO);
        Check.tokens(x, 1, 10);
        CHECK.due("0 by 5", x.mean(0), 0);
        CHECK.due("0 by 5", x.mean(1), 1);
        x.cut(1);
        CHECK.due("-10 by 2", x.mean(0), -5);
        CHECK.due("-10 by 2", x.mean(1), 1);
        x.cut(0);
        CHECK.due("none", x.mean(0), NO);
        x.wire(0, 0, 1, 1);
        Check.tokens(x, 2, MAX, MAX, MAX - 1);
        CHECK.due("no wrapping", x.mean(0), 3L * MAX - 1);
        CHECK.due("no wrapping", x.mean(1), 3);
        x.cut(2);
        x.wire(0, 0, 1, 1);
        Check.tokens(x, 3, MIN, MIN, MIN, MIN);
        CHECK.due("MIN", x.mean(0), MIN);
        CHECK.due("MIN", x.mean(1), 1);
    }
}
