/** Counts the answers that are not as due, prints them, and ends a test with exit code 1 if there was one. */
final class Check {
    private int looked = 0;
    private int wrong = 0;

    void due(String call, long got, long want) {
        looked++;
        if (got != want) {
            wrong++;
            System.out.println(call + " answered " + got + ", due is " + want);
        }
    }

    void end(String name) {
        System.out.println(name + ": " + looked + " answers looked at, " + wrong + " not as due");
        if (wrong != 0 || looked == 0) {
            System.exit(1);
        }
    }

    /** All signs of a text are fed, and it is read. */
    static int graph(BoxFlow x, String text) {
        feed(x, text);
        return x.graph();
    }

    static int feed(BoxFlow x, String text) {
        int answer = 0;
        for (int i = 0; i < text.length(); i++) {
            answer = x.feed(text.charAt(i));
        }
        return answer;
    }

    /** A new object with boxes told as pairs of kind and v. */
    static BoxFlow boxes(int... pairs) {
        BoxFlow x = new BoxFlow();
        for (int i = 0; i + 1 < pairs.length; i += 2) {
            x.box(pairs[i], pairs[i + 1]);
        }
        return x;
    }

    static void tokens(BoxFlow x, int wire, int... values) {
        for (int value : values) {
            x.token(wire, value);
        }
    }
}
