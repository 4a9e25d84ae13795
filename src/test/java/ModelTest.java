import java.util.Random;

/** Long runs of calls, the same every time, on the class and on the Model: every answer must be the same. */
public final class ModelTest {
    private static final int RUNS = 1600, CALLS = 512;
    private static final int[] ODD = {-1, -2, 6, 8, 10, 61, 100, 128, Integer.MIN_VALUE, Integer.MAX_VALUE};

    private final Check check;
    private final int run;
    private final Random random;
    private final BoxFlow x = new BoxFlow();
    private final Model m = new Model();
    private int calls = 0;
    private final int[] times = new int[6];
    /** The runs differ in how many tokens and boxes come and in how often a wire's rates fit no times. */
    private final int tokenShare;
    private final int unevenShare;
    private final int mostBoxes;

    private ModelTest(Check check, int run) {
        this.check = check;
        this.run = run;
        random = new Random(run * 0x9E3779B97F4A7C15L);
        tokenShare = random.nextInt(4);
        unevenShare = run % 4 == 0 ? 30 : 1;
        mostBoxes = run % 2 == 0 ? 6 : 2 + random.nextInt(3);
        int[] some = run % 3 == 0 ? new int[] {1, 2} : new int[] {1, 2, 3, 4, 6};
        for (int b = 0; b < 6; b++) {
            times[b] = some[random.nextInt(some.length)];
        }
    }

    public static void main(String[] args) {
        Check check = new Check();
        for (int run = 0; run < RUNS; run++) {
            new ModelTest(check, run).play();
        }
        check.end("ModelTest");
    }

    private void play() {
        for (int step = 0; calls < CALLS; step++) {
            if (step < 40 || below(12) == 0) {
                build();
            } else if (below(3) == 0) {
                change();
            } else {
                ask();
            }
        }
    }

    private int below(int n) {
        return random.nextInt(n);
    }

    /** 0 .. n - 1, and now and then a number that is not as told. */
    private int pick(int n) {
        return below(25) == 0 ? ODD[below(ODD.length)] : below(n);
    }

    private int value() {
        return below(6) == 0 ? random.nextInt() : below(20) - 5;
    }

    /** What calls behind the 512th answer is free. */
    private void due(String call, long got, long want) {
        calls++;
        if (calls <= CALLS) {
            check.due("run " + run + ": " + call, got, want);
        }
    }

    private void build() {
        switch (below(6)) {
            case 0 -> box(pick(5), pick(10));
            case 1, 2 -> wire();
            case 3 -> text();
            default -> tokens(pick(8), below(tokenShare == 0 ? 101 : 1 + 3 * tokenShare));
        }
    }

    private void box(int kind, int v) {
        if (m.count(0) < mostBoxes || mostBoxes == 6) {
            due("box " + kind + " " + v, x.box(kind, v), m.box(kind, v));
        }
    }

    private void tokens(int wire, int n) {
        for (int k = 0; k < n; k++) {
            int v = value();
            due("token " + wire + " " + v, x.token(wire, v), m.token(wire, v));
        }
    }

    /** Mostly with rates by which the times of this run come out. */
    private void wire() {
        int from = pick(mostBoxes), to = pick(mostBoxes);
        int[] rates = rates(from, to);
        due("wire " + from + " " + to, x.wire(from, to, rates[0], rates[1]), m.wire(from, to, rates[0], rates[1]));
    }

    private int[] rates(int from, int to) {
        if (from < 0 || from > 5 || to < 0 || to > 5 || below(100) < unevenShare) {
            return new int[] {1 + pick(4), 1 + pick(4)};
        }
        int divisor = 1;
        for (int d = 2; d <= 6; d++) {
            divisor = times[from] % d == 0 && times[to] % d == 0 ? d : divisor;
        }
        return new int[] {times[to] / divisor, times[from] / divisor};
    }

    private void text() {
        StringBuilder text = new StringBuilder();
        int clauses = below(8) == 0 ? 9 : 1 + below(3);
        for (int c = 0; c < clauses; c++) {
            int from = below(below(10) == 0 ? 10 : mostBoxes), to = below(below(10) == 0 ? 10 : mostBoxes);
            int[] rates = rates(from, to);
            text.append(c == 0 ? "" : ";").append(from).append(':').append(rates[0]).append('>').append(to)
                .append(':').append(rates[1]);
            for (int k = below(below(5) == 0 ? 8 : 4); k > 0; k--) {
                text.append(text.charAt(text.length() - 2) == ':' ? '+' : ',').append(below(below(9) == 0 ? 2000 : 1000));
            }
        }
        for (int k = below(4) == 0 ? 1 : 0; k > 0; k--) {
            text.setCharAt(below(text.length()), "0123456789:>+,;x /<".charAt(below(19)));
        }
        text.setLength(Math.min(below(5) == 0 ? below(text.length() + 1) : text.length(), 100));
        for (int k = 0; k < text.length(); k++) {
            due("feed", x.feed(text.charAt(k)), m.feed(text.charAt(k)));
        }
        due("graph " + text, x.graph(), m.graph());
    }

    private void change() {
        int a = pick(8), b = pick(6), c = pick(6);
        switch (below(18)) {
            case 0 -> cut(a);
            case 1, 2, 3 -> due("fire " + b, x.fire(b), m.fire(b));
            case 4, 5 -> due("period " + c, x.period(c), m.period(c));
            case 6 -> seeAndFit(b);
            case 7 -> see(a, pick(5), value());
            case 8, 9 -> due("plan " + (c - 1) + " " + a, x.plan(c - 1, a), m.plan(c - 1, a));
            case 10, 11 -> book(a);
            case 12 -> due("image", x.image(), m.image());
            case 13 -> undo();
            case 14 -> tape(b, pick(6) - 1, pick(62));
            case 15 -> item(b, pick(8), below(2) == 0 ? random.nextLong() : value());
            case 16 -> shift(b, pick(6), c, pick(6), pick(6));
            default -> judge(a, b);
        }
    }

    private void cut(int wire) {
        if (below(4) == 0) {
            due("cut " + wire, x.cut(wire), m.cut(wire));
        }
    }

    private void undo() {
        if (below(5) == 0) {
            due("undo", x.undo(), m.undo());
        }
    }

    private void see(int wire, int n, int latest) {
        due("see " + wire + " " + n + " " + latest, x.see(wire, n, latest), m.see(wire, n, latest));
    }

    /** Mostly what would be so by one number of a box; then which numbers fit. */
    private void seeAndFit(int box) {
        if (below(3) > 0) {
            see(-1, pick(5), 0);
        }
        int v = below(10);
        for (int r = below(4); r >= 0; r--) {
            int wire = pick(8), n = pick(5);
            long latest = m.latestWith(box, v, n, wire);
            if (latest != BoxFlow.NO || below(5) == 0) {
                see(wire, n, below(20) == 0 ? value() : (int) latest);
            }
        }
        due("fits " + box + " 0", x.fits(box, 0), m.fits(box, 0));
        due("fits " + box + " 1", x.fits(box, 1), m.fits(box, 1));
    }

    /** Mostly what is so. */
    private void book(int wire) {
        int n = below(6) == 0 ? pick(100) : m.about(wire, 4);
        int row = below(9) == 0 ? -1 : wire;
        due("book " + row + " " + n, x.book(row, n), m.book(row, n));
    }

    private void tape(int tape, int sort, int n) {
        due("tape " + tape + " " + sort + " " + n, x.tape(tape, sort, n), m.tape(tape, sort, n));
    }

    private void item(int tape, int i, long v) {
        due("item " + tape + " " + i + " " + v, x.item(tape, i, v), m.item(tape, i, v));
    }

    private void shift(int tape, int i, int other, int j, int n) {
        due("shift " + tape + " " + i + " " + other + " " + j + " " + n, x.shift(tape, i, other, j, n),
            m.shift(tape, i, other, j, n));
    }

    /** Most of a wire's tokens are told, often rightly. */
    private void judge(int wire, int tape) {
        int place = below(4), size = Math.max(0, m.about(wire, 4));
        tape(tape, 2, Math.min(60, place + Math.max(0, size + 1 - below(4))));
        for (int k = 0; k < size && k < 12; k++) {
            item(tape, place + k, below(30) == 0 ? value() : m.read(wire, k));
        }
        due("judge " + wire + " " + tape, x.judge(wire, tape, place), m.judge(wire, tape, place));
    }

    private void ask() {
        int a = pick(8), b = pick(6), n = pick(10), k = pick(8);
        switch (below(17)) {
            case 0, 1 -> due("of " + b + " " + k, x.of(b, k), m.of(b, k));
            case 2, 3 -> due("about " + a + " " + k, x.about(a, k), m.about(a, k));
            case 4 -> due("read " + a + " " + k, x.read(a, k), m.read(a, k));
            case 5, 6 -> due("told " + b, x.told(b), m.told(b));
            case 7 -> due("when " + k, x.when(k), m.when(k));
            case 8 -> due("on " + n + " " + a, x.on(n, a), m.on(n, a));
            case 9 -> due("then " + n + " " + a + " " + k, x.then(n, a, k), m.then(n, a, k));
            case 10 -> due("fits " + b + " " + k % 3, x.fits(b, k % 3), m.fits(b, k % 3));
            case 11 -> due("odds " + a + " " + k % 3, x.odds(a, k % 3), m.odds(a, k % 3));
            case 12 -> due("mean " + k % 3, x.mean(k % 3), m.mean(k % 3));
            case 13 -> due("ends " + k % 3, x.ends(k % 3), m.ends(k % 3));
            case 14 -> due("looked", x.looked(), m.looked());
            case 15 -> due("judge " + a + " " + b + " " + k, x.judge(a, b, k), m.judge(a, b, k));
            default -> {
                due("count " + k, x.count(k), m.count(k));
                due("peek " + b + " " + k, x.peek(b, k), m.peek(b, k));
            }
        }
    }
}
