import java.util.ArrayList;
import java.util.Arrays;
import java.util.Collections;
import java.util.List;
import java.util.regex.Matcher;
import java.util.regex.Pattern;

/**
 * The document once more, as plainly as it can be written and with none of the class's shortcuts: periods are
 * played on copies, TIMES and LEAST are found by trying all, faults by a pattern. ModelTest holds both together.
 */
final class Model {
    private static final long NO = Long.MIN_VALUE;
    private static final String TOKEN = "[0-9]{1,3}";
    private static final String CLAUSE = "[0-9]:[1-4]>[0-9]:[1-4](\\+" + TOKEN + "(," + TOKEN + "){0,5})?";
    private static final Pattern GRAPH = Pattern.compile(CLAUSE + "(;" + CLAUSE + "){0,7}");

    private static final class B {
        int kind, v, fired;

        B copy() {
            B b = new B();
            b.kind = kind;
            b.v = v;
            b.fired = fired;
            return b;
        }
    }

    private static final class W {
        int from, to, puts, takes;
        boolean cut;
        List<Integer> tokens = new ArrayList<>();

        W copy() {
            W w = new W();
            w.from = from;
            w.to = to;
            w.puts = puts;
            w.takes = takes;
            w.cut = cut;
            w.tokens.addAll(tokens);
            return w;
        }
    }

    /** Boxes, wires and what was told by hand: all that an image holds. */
    private static final class S {
        List<B> boxes = new ArrayList<>();
        List<W> wires = new ArrayList<>();
        List<int[]> seen = new ArrayList<>(), plan = new ArrayList<>(), book = new ArrayList<>();

        S copy() {
            S s = new S();
            boxes.forEach(b -> s.boxes.add(b.copy()));
            wires.forEach(w -> s.wires.add(w.copy()));
            s.seen.addAll(seen);
            s.plan.addAll(plan);
            s.book.addAll(book);
            return s;
        }

        List<W> there() {
            List<W> list = new ArrayList<>();
            wires.forEach(w -> {
                if (!w.cut) {
                    list.add(w);
                }
            });
            return list;
        }

        boolean can(int b) {
            for (W w : there()) {
                int size = w.tokens.size();
                if (w.to == b) {
                    if (size < w.takes) {
                        return false;
                    }
                    size -= w.takes;
                }
                if (w.from == b && size + w.puts > 99) {
                    return false;
                }
            }
            return true;
        }

        int fire(int b) {
            B box = boxes.get(b);
            List<Integer> taken = new ArrayList<>();
            for (W w : there()) {
                for (int k = 0; w.to == b && k < w.takes; k++) {
                    taken.add(w.tokens.remove(0));
                }
            }
            int sum = 0;
            int product = 1;
            for (int x : taken) {
                sum += x;
                product *= x;
            }
            int made;
            if (box.kind == 0) {
                made = box.v + sum;
            } else if (box.kind == 1) {
                made = box.v * product;
            } else if (box.kind == 2) {
                made = taken.isEmpty() ? box.v : taken.get(taken.size() - 1);
            } else if (box.kind == 3) {
                taken.add(box.v);
                made = Collections.max(taken);
            } else {
                made = box.fired * box.v + sum;
            }
            for (W w : there()) {
                for (int j = 0; w.from == b && j < w.puts; j++) {
                    int[] put = {made + j, made, made - j, j == 0 || j == 2 ? made : box.v, made * (j + 1)};
                    w.tokens.add(put[box.kind]);
                }
            }
            box.fired = box.fired >= 9999 ? 9999 : box.fired + 1;
            return made;
        }

        /** Null: uneven. Each lot by itself: the least start from which all numbers come out whole. */
        int[] times() {
            int[] times = new int[boxes.size()];
            for (int root = 0; root < times.length; root++) {
                if (times[root] == 0) {
                    int[] found = null;
                    for (int start = 1; start <= 60 && found == null; start++) {
                        found = spread(root, start);
                    }
                    if (found == null) {
                        return null;
                    }
                    for (int b = 0; b < times.length; b++) {
                        times[b] = Math.max(times[b], found[b]);
                    }
                }
            }
            return times;
        }

        private int[] spread(int root, int start) {
            int[] t = new int[boxes.size()];
            t[root] = start;
            for (int round = 0; round < 10; round++) {
                for (W w : there()) {
                    if (t[w.from] > 0 && t[w.to] == 0) {
                        if (t[w.from] * w.puts % w.takes != 0) {
                            return null;
                        }
                        t[w.to] = t[w.from] * w.puts / w.takes;
                    } else if (t[w.to] > 0 && t[w.from] == 0) {
                        if (t[w.to] * w.takes % w.puts != 0) {
                            return null;
                        }
                        t[w.from] = t[w.to] * w.takes / w.puts;
                    }
                    if (t[w.from] * w.puts != t[w.to] * w.takes) {
                        return null;
                    }
                }
            }
            return Arrays.stream(t).anyMatch(x -> x > 60) ? null : t;
        }

        /** A period goes here till it stands: whether it went whole. The boxes come to fires, the most to held. */
        boolean go(List<Integer> fires, int[] held) {
            int[] left = times();
            if (left == null) {
                return false;
            }
            note(held);
            while (Arrays.stream(left).sum() > 0) {
                int b = 0;
                while (b < left.length && (left[b] == 0 || !can(b))) {
                    b++;
                }
                if (b == left.length) {
                    return false;
                }
                left[b]--;
                fire(b);
                fires.add(b);
                note(held);
            }
            return true;
        }

        void note(int[] held) {
            for (int w = 0; w < wires.size(); w++) {
                held[w] = Math.max(held[w], wires.get(w).tokens.size());
            }
        }

        /** How many of n periods went. */
        int go(int n) {
            int gone = 0;
            while (gone < n && copy().go(new ArrayList<>(), new int[8])) {
                go(new ArrayList<>(), new int[8]);
                gone++;
            }
            return gone;
        }

        boolean goes() {
            return copy().go(1) == 1;
        }

        int least(int[] left, int[] held) {
            int[] most = held.clone();
            note(most);
            if (Arrays.stream(left).sum() == 0) {
                return Arrays.stream(most).sum();
            }
            int best = -5;
            for (int b = 0; b < left.length; b++) {
                if (left[b] > 0 && can(b)) {
                    S next = copy();
                    next.fire(b);
                    left[b]--;
                    int hold = next.least(left, most);
                    left[b]++;
                    best = hold >= 0 && (best < 0 || hold < best) ? hold : best;
                }
            }
            return best;
        }

        int tokens() {
            return there().stream().mapToInt(w -> w.tokens.size()).sum();
        }

        long values() {
            return there().stream().flatMap(w -> w.tokens.stream()).mapToLong(x -> x).sum();
        }

        boolean[][] reach() {
            int n = boxes.size();
            boolean[][] r = new boolean[n][n];
            there().forEach(w -> r[w.from][w.to] = true);
            for (int k = 0; k < n; k++) {
                for (int i = 0; i < n; i++) {
                    for (int j = 0; j < n; j++) {
                        r[i][j] |= r[i][k] && r[k][j];
                    }
                }
            }
            return r;
        }
    }

    private S now = new S();
    private S image = null;
    private String text = "";
    private final int[] sorts = {-1, -1, -1, -1, -1, -1};
    private final long[][] tapes = new long[6][];

    private boolean noBox(int b) {
        return b < 0 || b >= now.boxes.size();
    }

    private boolean noWire(int w) {
        return w < 0 || w >= now.wires.size() || now.wires.get(w).cut;
    }

    private static boolean out(int x, int least, int most) {
        return x < least || x > most;
    }

    int box(int kind, int v) {
        if (out(kind, 0, 4)) return -1;
        if (out(v, 0, 9)) return -2;
        if (now.boxes.size() == 6) return -4;
        B b = new B();
        b.kind = kind;
        b.v = v;
        now.boxes.add(b);
        return now.boxes.size() - 1;
    }

    int wire(int from, int to, int puts, int takes) {
        if (noBox(from) || noBox(to)) return -1;
        if (out(puts, 1, 4) || out(takes, 1, 4)) return -2;
        if (now.wires.size() == 8) return -4;
        W w = new W();
        w.from = from;
        w.to = to;
        w.puts = puts;
        w.takes = takes;
        now.wires.add(w);
        return now.wires.size() - 1;
    }

    int token(int wire, int x) {
        if (noWire(wire)) return -1;
        List<Integer> tokens = now.wires.get(wire).tokens;
        if (tokens.size() == 99) return -4;
        tokens.add(x);
        return tokens.size();
    }

    int cut(int wire) {
        if (noWire(wire)) return -1;
        W w = now.wires.get(wire);
        int had = w.tokens.size();
        w.tokens.clear();
        w.cut = true;
        return had;
    }

    int feed(int sign) {
        if (out(sign, 0, 127)) return -2;
        if (text.length() == 100) return -4;
        text += (char) sign;
        return text.length();
    }

    int graph() {
        String t = text;
        text = "";
        for (int i = 1; i <= t.length(); i++) {
            Matcher m = GRAPH.matcher(t.substring(0, i));
            if (!m.matches() && !m.hitEnd()) return -10 - (i - 1);
        }
        if (!GRAPH.matcher(t).matches()) return -10 - t.length();
        int came = 0;
        for (String clause : t.split(";")) {
            int number = wire(clause.charAt(0) - '0', clause.charAt(4) - '0', clause.charAt(2) - '0', clause.charAt(6) - '0');
            if (number >= 0) {
                came++;
                if (clause.length() > 7) {
                    for (String x : clause.substring(8).split(",")) {
                        token(number, Integer.parseInt(x));
                    }
                }
            }
        }
        return came;
    }

    int of(int box, int what) {
        if (noBox(box) || out(what, 0, 7)) return -1;
        B b = now.boxes.get(box);
        if (what < 3) return new int[] {b.kind, b.v, b.fired}[what];
        if (what == 3) return now.times() == null ? -5 : now.times()[box];
        if (what == 4) return now.can(box) ? 1 : 0;
        int bits = 0;
        if (what == 5) {
            boolean[][] r = now.reach();
            for (int o = 0; o < r.length; o++) {
                bits += r[box][o] && r[o][box] ? 1 << o : 0;
            }
            return bits;
        }
        for (int w = 0; w < now.wires.size(); w++) {
            W wire = now.wires.get(w);
            bits += !wire.cut && (what == 6 ? wire.to : wire.from) == box ? 1 << w : 0;
        }
        return bits;
    }

    int about(int wire, int what) {
        if (noWire(wire) || out(what, 0, 6)) return -1;
        W w = now.wires.get(wire);
        if (what < 5) return new int[] {w.from, w.to, w.puts, w.takes, w.tokens.size()}[what];
        if (now.times() == null) return -5;
        if (what == 5) return held()[wire];
        for (int n = 0; n <= 20; n++) {
            if (with(wire, n).goes()) return n;
        }
        return -5;
    }

    private int[] held() {
        int[] held = new int[8];
        now.copy().go(new ArrayList<>(), held);
        return held;
    }

    private S with(int wire, int n) {
        S s = now.copy();
        s.wires.get(wire).tokens = new ArrayList<>(Collections.nCopies(n, 0));
        return s;
    }

    long read(int wire, int k) {
        return readIn(now, wire, k);
    }

    private long readIn(S s, int wire, int k) {
        if (noWire(wire) || out(k, 0, s.wires.get(wire).tokens.size() - 1)) return NO;
        return s.wires.get(wire).tokens.get(k);
    }

    long fire(int box) {
        return noBox(box) || !now.can(box) ? NO : now.fire(box);
    }

    int period(int n) {
        if (out(n, 0, 9)) return -2;
        return now.times() == null ? -3 : now.go(n);
    }

    int told(int what) {
        if (out(what, 0, 5)) return -1;
        int[] times = now.times();
        if (what == 0) return times == null ? 1 : 0;
        if (what == 5) return now.tokens();
        if (times == null) return -5;
        int total = Arrays.stream(times).sum();
        if (what == 1) return total;
        if (what == 2) return now.goes() ? 0 : 1;
        if (what == 3) return Arrays.stream(held()).sum();
        return total > 8 ? -5 : now.copy().least(times, new int[8]);
    }

    int when(int k) {
        if (k < 0) return -1;
        List<Integer> fires = new ArrayList<>();
        now.copy().go(fires, new int[8]);
        return k < fires.size() ? fires.get(k) : -5;
    }

    int on(int n, int wire) {
        if (noWire(wire)) return -1;
        if (out(n, 0, 9)) return -2;
        S s = now.copy();
        s.go(n);
        return s.wires.get(wire).tokens.size();
    }

    long then(int n, int wire, int k) {
        if (noWire(wire) || out(n, 0, 9)) return NO;
        S s = now.copy();
        s.go(n);
        return readIn(s, wire, k);
    }

    private static int add(List<int[]> rows, int most, int... row) {
        if (rows.size() == most) return -4;
        rows.add(row);
        return rows.size();
    }

    private static int empty(List<int[]> rows) {
        rows.clear();
        return 0;
    }

    int see(int wire, int n, int x) {
        if (wire == -1) return empty(now.seen);
        if (noWire(wire)) return -1;
        if (out(n, 0, 4)) return -2;
        return add(now.seen, 5, wire, n, x);
    }

    int fits(int box, int what) {
        if (noBox(box) || out(what, 0, 1)) return -1;
        List<Integer> fitting = new ArrayList<>();
        for (int v = 0; v <= 9; v++) {
            boolean so = true;
            for (int[] row : now.seen) {
                S s = now.copy();
                s.boxes.get(box).v = v;
                boolean gone = s.go(row[1]) == row[1];
                List<Integer> tokens = s.wires.get(row[0]).tokens;
                so &= gone && !noWire(row[0]) && !tokens.isEmpty() && tokens.get(tokens.size() - 1) == row[2];
            }
            if (so) {
                fitting.add(v);
            }
        }
        return what == 0 ? fitting.size() : fitting.isEmpty() ? -5 : fitting.get(0);
    }

    /** For tests that tell what could be seen: the latest token n periods on, were v the box's number. */
    long latestWith(int box, int v, int n, int wire) {
        if (noBox(box) || noWire(wire) || out(n, 0, 4)) return NO;
        S s = now.copy();
        s.boxes.get(box).v = v;
        s.go(n);
        return readIn(s, wire, s.wires.get(wire).tokens.size() - 1);
    }

    private static long lowest(long above, long below, int part) {
        for (long d = below; d > 1; d--) {
            if (above % d == 0 && below % d == 0) {
                above /= d;
                below /= d;
            }
        }
        return part == 0 ? above : below;
    }

    long odds(int wire, int part) {
        if (noWire(wire) || out(part, 0, 1)) return NO;
        int going = 0;
        for (int n = 0; n <= 9; n++) {
            going += with(wire, n).goes() ? 1 : 0;
        }
        return lowest(going, 10, part);
    }

    long mean(int part) {
        if (out(part, 0, 1) || now.tokens() == 0) return NO;
        return lowest(now.values(), now.tokens(), part);
    }

    int plan(int what, int n) {
        if (what == -1) return empty(now.plan);
        if (out(what, 0, 3)) return -1;
        if ((what == 0 || what == 2) && noBox(n) || what == 1 && noWire(n)) return -1;
        return add(now.plan, 10, what, n);
    }

    int ends(int what) {
        if (out(what, 0, 1)) return -10001;
        S s = now.copy();
        for (int[] row : now.plan) {
            if (row[0] == 0 && s.can(row[1])) s.fire(row[1]);
            if (row[0] == 1) s.wires.get(row[1]).tokens.clear();
            if (row[0] == 2) s.boxes.get(row[1]).v = 0;
            if (row[0] == 3) s.go(1);
        }
        return what == 0 ? s.tokens() : (int) s.values();
    }

    int book(int wire, int n) {
        if (wire == -1) return empty(now.book);
        if (noWire(wire)) return -1;
        if (out(n, 0, 99)) return -2;
        return add(now.book, 8, wire, n);
    }

    int looked() {
        for (int r = 0; r < now.book.size(); r++) {
            int[] row = now.book.get(r);
            if (noWire(row[0]) || now.wires.get(row[0]).tokens.size() != row[1]) return r;
        }
        return -5;
    }

    int judge(int wire, int tape, int i) {
        if (noWire(wire) || out(tape, 0, 5)) return -1;
        if (sorts[tape] != -1 && sorts[tape] != 2) return -12;
        List<Integer> tokens = now.wires.get(wire).tokens;
        for (int k = 0; k < tokens.size(); k++) {
            if (i < 0 || tapes[tape] == null || (long) i + k >= tapes[tape].length) return 100 + k;
            if (tapes[tape][i + k] != tokens.get(k)) return k;
        }
        return -5;
    }

    int image() {
        image = now.copy();
        return now.boxes.size();
    }

    int undo() {
        if (image == null) return -3;
        now = image.copy();
        return now.boxes.size();
    }

    int count(int what) {
        int[] counts = {now.boxes.size(), now.wires.size(), now.there().size(), now.seen.size(), now.plan.size(),
            now.book.size(), text.length()};
        return out(what, 0, 6) ? -2 : counts[what];
    }

    int tape(int tape, int sort, int n) {
        if (out(tape, 0, 5)) return -1;
        if (out(sort, -1, 4) || sort != -1 && n > 60) return -2;
        if (sort != -1 && n < 0) return -14;
        sorts[tape] = sort;
        tapes[tape] = sort == -1 ? null : new long[n];
        return 1;
    }

    int item(int tape, int i, long v) {
        if (out(tape, 0, 5)) return -1;
        if (tapes[tape] == null) return -11;
        if (out(i, 0, tapes[tape].length - 1)) return -13;
        long[] item = {(byte) v, (short) v, (int) v, v, v == 0 ? 0 : 1};
        tapes[tape][i] = item[sorts[tape]];
        return 1;
    }

    long peek(int tape, int i) {
        if (out(tape, 0, 5) || tapes[tape] == null || out(i, 0, tapes[tape].length - 1)) return NO;
        return tapes[tape][i];
    }

    int shift(int tape, int i, int other, int j, int n) {
        if (out(tape, 0, 5) || out(other, 0, 5)) return -1;
        if (tapes[tape] == null || tapes[other] == null) return -11;
        if (sorts[tape] != sorts[other]) return -12;
        if (n < 0 || i < 0 || j < 0) return -13;
        if ((long) i + n > tapes[tape].length || (long) j + n > tapes[other].length) return -13;
        long[] before = tapes[tape].clone();
        for (int k = 0; k < n; k++) {
            tapes[other][j + k] = before[i + k];
        }
        return n;
    }
}
