/** Counts what isn't as due, and tells it. */
final class Check {
    static final int BEYOND = -1000000001;
    static final int FULL = -1000000002;
    static final int KIND = -1000000003;
    static final int NONE = -1000000004;
    static final int STATE = -1000000005;
    static final int MISSING = -1000000006;
    static final int SIZE = -1000000007;
    static final int OVER = -1000000008;

    private static int asked;
    private static int wrong;

    private Check() { }

    static void due(String what, long due, long got) {
        asked++;
        if (due != got) {
            wrong++;
            System.out.println(what + ": got " + got + ", due is " + due);
        }
    }

    static void holds(String what, boolean does) {
        due(what, 1, does ? 1 : 0);
    }

    /** Puts a text on the tape, byte by byte. */
    static void feed(GoodsUnderWay x, String text) {
        for (int i = 0; i < text.length(); i++) {
            x.feed(text.charAt(i), 1);
        }
    }

    static int read(GoodsUnderWay x, String text) {
        feed(x, text);
        return x.text();
    }

    static void end() {
        System.out.println(asked + " asked, " + wrong + " wrong");
        System.exit(wrong == 0 ? 0 : 1);
    }
}
