import java.util.ArrayList;
import java.util.List;

/**
 * All that can be asked of an object in a state, so that a call which must change nothing can be seen to change
 * nothing. It is asked in parts, each of a fresh object, so that none is used for more than 512 calls.
 */
final class Whole {
    interface Build {
        BoxFlow make();
    }

    interface Call {
        long on(BoxFlow x);
    }

    /** What is asked as it is; the text and the image can only be looked at by what they bring. */
    private static final int PARTS = 9, IMAGE_PARTS = 6;

    private final Check check;
    private final String state;
    private final Build build;
    private final List<List<Long>> before = new ArrayList<>();

    Whole(Check check, String state, Build build) {
        this.check = check;
        this.state = state;
        this.build = build;
        for (int part = 0; part < PARTS + IMAGE_PARTS; part++) {
            before.add(ask(build.make(), part));
        }
    }

    /** The call is answered so, and nothing is changed by it. */
    void refused(String call, Call refused, long want) {
        for (int part = 0; part < before.size(); part++) {
            BoxFlow x = build.make();
            check.due(state + ": " + call, refused.on(x), want);
            same(call, part, x);
        }
    }

    /** Nothing is changed by the call, whatever its answer is. */
    void asked(String call, Call asked) {
        for (int part = 0; part < before.size(); part++) {
            BoxFlow x = build.make();
            asked.on(x);
            same(call, part, x);
        }
    }

    private void same(String call, int part, BoxFlow x) {
        List<Long> want = before.get(part), got = ask(x, part);
        for (int i = 0; i < want.size(); i++) {
            check.due(state + " behind " + call + ", part " + part + " question " + i, got.get(i), want.get(i));
        }
    }

    private static List<Long> ask(BoxFlow x, int part) {
        List<Long> answers = new ArrayList<>();
        if (part >= PARTS) {
            answers.add((long) x.undo());
        }
        int asked = part >= PARTS ? part - PARTS : part;
        switch (asked) {
            case 0 -> askBoxes(x, answers);
            case 1 -> askWires(x, answers);
            case 2, 3, 4, 5 -> askTokens(x, answers, 2 * (asked - 2));
            case 6, 7 -> askTapes(x, answers, 3 * (asked - 6));
            default -> askText(x, answers);
        }
        return answers;
    }

    private static void askBoxes(BoxFlow x, List<Long> answers) {
        for (int what = 0; what <= 6; what++) {
            answers.add((long) x.count(what));
            answers.add((long) x.told(what));
        }
        for (int box = 0; box < 6; box++) {
            for (int what = 0; what <= 7; what++) {
                answers.add((long) x.of(box, what));
            }
            answers.add((long) x.fits(box, 0));
            answers.add((long) x.fits(box, 1));
        }
        for (int k = 0; k < 12; k++) {
            answers.add((long) x.when(k));
        }
        for (int part = 0; part <= 1; part++) {
            answers.add((long) x.ends(part));
            answers.add(x.mean(part));
        }
        answers.add((long) x.looked());
    }

    private static void askWires(BoxFlow x, List<Long> answers) {
        for (int wire = 0; wire < 8; wire++) {
            for (int what = 0; what <= 6; what++) {
                answers.add((long) x.about(wire, what));
            }
            answers.add(x.odds(wire, 0));
            answers.add(x.odds(wire, 1));
            answers.add((long) x.on(1, wire));
            for (int k = 0; k < 4; k++) {
                answers.add(x.then(2, wire, k));
            }
        }
    }

    private static void askTokens(BoxFlow x, List<Long> answers, int firstWire) {
        for (int wire = firstWire; wire < firstWire + 2; wire++) {
            for (int k = 0; k < 100; k++) {
                answers.add(x.read(wire, k));
            }
        }
    }

    private static void askTapes(BoxFlow x, List<Long> answers, int firstTape) {
        for (int tape = firstTape; tape < firstTape + 3; tape++) {
            for (int i = 0; i <= 60; i++) {
                answers.add(x.peek(tape, i));
            }
            // Sorts show by what an item keeps, and whether there is a row by the refusal.
            answers.add((long) x.item(tape, 0, 0x1_2345_8678_9ABCL));
            answers.add(x.peek(tape, 0));
        }
    }

    /** If there is room for it, the text gets an end, so that it can be a graph. */
    private static void askText(BoxFlow x, List<Long> answers) {
        answers.add((long) x.feed('1'));
        answers.add((long) x.graph());
        for (int wire = 0; wire < 8; wire++) {
            for (int what = 0; what <= 4; what++) {
                answers.add((long) x.about(wire, what));
            }
            for (int k = 0; k < 7; k++) {
                answers.add(x.read(wire, k));
            }
        }
    }
}
