import java.util.Random;

/** Random texts, whole and broken, on the program and on the model. */
public final class TextTest {
    private static final int OBJECTS = 7500;
    private static final String[] STATIONS = {"yard", "shed", "quay", "vault"};
    private static final String[] LINES = {"road", "rail", "ferry", "express", "barge", "pass"};
    private static final String[] PIECES = {"yard", "shed", "road", "pass", "stock", "store", "wide", "long", "tide",
        "later", ";", " ", "0", "1", "6", "10", "99", "100", "999", "1000", "009", "A", "_", "{", "`", "/", ":", "\n",
        "\u00e4", "\u0000", "yards", "oad", "4294967296", "18446744073709551616"};

    private final Random random;
    private final GoodsUnderWay program = new GoodsUnderWay();
    private final Model model = new Model();
    private int stations;

    private TextTest(long seed) {
        random = new Random(seed);
    }

    private String gap() {
        return " ".repeat(1 + (random.nextInt(5) == 0 ? random.nextInt(3) : 0));
    }

    private String perhaps(String word, int low, int high) {
        if (random.nextInt(3) > 0) {
            return "";
        }
        int v = random.nextInt(25) == 0 ? high + 1 : low + random.nextInt(high - low + 1);
        return gap() + word + gap() + v;
    }

    private String item() {
        if (stations < 2 || random.nextInt(4) == 0) {
            stations++;
            return STATIONS[random.nextInt(4)] + perhaps("stock", 0, 999) + perhaps("store", 0, 99);
        }
        int from = random.nextInt(stations);
        int to = (from + 1 + random.nextInt(stations - 1)) % stations;
        String later = random.nextInt(3) > 0 ? "" : perhaps("later", 0, 99);
        return LINES[random.nextInt(6)] + gap() + from + gap() + to + perhaps("wide", 0, 99) + perhaps("long", 1, 9)
                + perhaps("tide", 0, 5) + later + (later.isEmpty() ? "" : gap() + random.nextInt(1000));
    }

    private String text() {
        stations = model.count(1);
        StringBuilder text = new StringBuilder();
        int items = 1 + random.nextInt(5);
        for (int i = 0; i < items; i++) {
            text.append(i > 0 ? ";" : "").append(random.nextInt(4) == 0 ? gap() : "").append(item());
        }
        if (random.nextInt(2) == 0) {
            int at = random.nextInt(text.length() + 1);
            int end = Math.min(text.length(), at + random.nextInt(4));
            text.replace(at, end, random.nextInt(4) == 0 ? "" : PIECES[random.nextInt(PIECES.length)]);
        }
        return text.substring(0, Math.min(120, text.length()));
    }

    private void feed(String text) {
        for (int at = 0; at < text.length(); ) {
            int n = Math.min(4, text.length() - at);
            int bytes = 0;
            for (int i = 0; i < n; i++) {
                bytes = bytes << 8 | text.charAt(at + i);
            }
            Check.due("feed", model.feed(bytes, n), program.feed(bytes, n));
            at += n;
        }
    }

    private void compare(String text) {
        feed(text);
        Check.due("text '" + text + "'", model.text(), program.text());
        for (int i = 0; i < 6; i++) {
            Check.due("count(" + i + ") behind '" + text + "'", model.count(i), program.count(i));
        }
        for (int i = 0; i < model.count(1); i++) {
            for (int what = 0; what < 4; what++) {
                Check.due("of(" + i + ", " + what + ") behind '" + text + "'", model.of(i, what), program.of(i, what));
            }
        }
        for (int i = 0; i < model.count(2); i++) {
            for (int what = 0; what < 12; what++) {
                Check.due("its(" + i + ", " + what + ") behind '" + text + "'", model.its(i, what), program.its(i, what));
            }
        }
    }

    public static void main(String[] args) {
        for (int i = 0; i < OBJECTS; i++) {
            TextTest test = new TextTest(i);
            // More texts would be more than 512 calls.
            test.compare(test.text());
            test.compare(test.text());
        }
        Check.end();
    }
}
