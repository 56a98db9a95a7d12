import java.lang.reflect.Method;
import java.util.Arrays;
import java.util.ArrayList;
import java.util.List;
import java.util.Random;

/** Random runs of calls on the program and on the model; every answer must be the same. */
public final class ModelTest {
    private static final int RUNS = Integer.getInteger("runs", 600);
    /** What later calls answer is free. */
    private static final int CALLS = 512;
    private static final long SEED = Long.getLong("seed", 20261118L);
    private static final String[] WORDS = {"yard", "shed", "quay", "vault", "road", "rail", "ferry", "express",
        "barge", "pass", "stock", "store", "wide", "long", "tide", "later", ";", ";", ";", " ", "0", "1", "2", "3",
        "5", "9", "10", "99", "100", "999", "1000", "007", "X", "yards", "z", "\t", "0000000000004294967297"};

    private final Random random;
    private final GoodsUnderWay program = new GoodsUnderWay();
    private final Model model = new Model();
    private final List<String> calls = new ArrayList<>();
    private final int depth;

    private ModelTest(long seed, int depth) {
        random = new Random(seed);
        this.depth = depth;
    }

    private boolean ask(String name, Object... arguments) throws Exception {
        if (calls.size() >= CALLS) {
            return true;
        }
        Class<?>[] types = new Class<?>[arguments.length];
        for (int i = 0; i < types.length; i++) {
            types[i] = arguments[i] instanceof Long ? long.class : int.class;
        }
        Method theirs = GoodsUnderWay.class.getDeclaredMethod(name, types);
        Method ours = Model.class.getDeclaredMethod(name, types);
        Object got = theirs.invoke(program, arguments);
        Object due = ours.invoke(model, arguments);
        calls.add(name + Arrays.toString(arguments) + " = " + got);
        if (!got.equals(due)) {
            for (String call : calls) {
                System.out.println(call);
            }
            System.out.println("due is " + due);
        }
        return got.equals(due);
    }

    private int upTo(int most) {
        return random.nextInt(most + 1);
    }

    /** Mostly within the bounds, now and then one beside them or far beyond. */
    private int in(int low, int high) {
        int which = random.nextInt(60);
        if (which == 0) {
            return low - 1;
        }
        if (which == 1) {
            return high + 1;
        }
        if (which == 2) {
            return random.nextBoolean() ? Integer.MAX_VALUE : Integer.MIN_VALUE;
        }
        if (which < 9) {
            return random.nextBoolean() ? low : high;
        }
        return low + random.nextInt(Math.max(1, high - low + 1));
    }

    private int aStation() {
        return in(0, model.now.places.size() - 1);
    }

    private int aLine() {
        return in(0, model.now.ways.size() - 1);
    }

    private int aTick() {
        return in(0, Math.min(24, depth));
    }

    private boolean feed(String text) throws Exception {
        boolean fine = true;
        for (int at = 0; at < text.length() && fine; ) {
            int n = Math.min(text.length() - at, 1 + random.nextInt(4));
            int bytes = n < 4 ? random.nextInt() << 8 * n : 0;
            for (int i = 0; i < n; i++) {
                bytes |= text.charAt(at + i) << 8 * (n - 1 - i);
            }
            fine = ask("feed", bytes, n);
            at += n;
        }
        return fine;
    }

    private String anyText() {
        StringBuilder text = new StringBuilder();
        int items = 1 + random.nextInt(6);
        for (int i = 0; i < items; i++) {
            text.append(i > 0 ? ";" : "").append(random.nextInt(3) == 0 ? " " : "");
            text.append(random.nextInt(3) > 0 ? stationText() : lineText());
        }
        if (random.nextInt(3) == 0) {
            int at = random.nextInt(text.length() + 1);
            int end = Math.min(text.length(), at + random.nextInt(3));
            text.replace(at, end, WORDS[random.nextInt(WORDS.length)]);
        }
        return text.toString();
    }

    private String stationText() {
        return WORDS[random.nextInt(4)] + (random.nextBoolean() ? " stock " + in(0, 999) : "")
                + (random.nextBoolean() ? " store " + in(0, 99) : "");
    }

    private String lineText() {
        int last = Math.max(2, model.now.places.size());
        int from = random.nextInt(last);
        int to = random.nextInt(6) == 0 ? aStation() : (from + 1) % last;
        return WORDS[4 + random.nextInt(6)] + " " + from + " " + to
                + (random.nextBoolean() ? " wide " + in(0, 99) : "") + (random.nextBoolean() ? " long " + in(1, 9) : "")
                + (random.nextBoolean() ? " tide " + in(0, 5) : "")
                + (random.nextBoolean() ? "later" + in(0, 99) + " " + in(0, 999) : "");
    }

    private boolean step() throws Exception {
        switch (random.nextInt(100) / 10) {
            case 0: return makeSome();
            case 1: return goOn();
            case 2: return tend();
            case 3: case 4: return askWhatCanBe();
            case 5: case 6: return askWhichIsBest();
            case 7: return askWhatGoesOn();
            case 8: return useSheets();
            default: return random.nextInt(12) == 0 ? readSome() : keepSome();
        }
    }

    private boolean makeSome() throws Exception {
        switch (random.nextInt(6)) {
            case 0: return ask("station", in(0, 3), in(0, 999));
            case 1: return ask("line", in(0, 5), aStation(), aStation(), in(0, 99), in(1, 9));
            case 2: case 3: return setSome();
            default: return changeSome();
        }
    }

    private boolean goOn() throws Exception {
        switch (random.nextInt(6)) {
            case 0: return ask("go", random.nextInt(9) == 0 ? in(1, 60) : 1 + upTo(2));
            case 1: return ask("send", aLine(), in(0, 9999));
            default: return sendSome();
        }
    }

    private boolean tend() throws Exception {
        switch (random.nextInt(6)) {
            case 0: return ask("of", aStation(), in(0, 4));
            case 1: case 2: return ask("its", aLine(), in(0, 11));
            case 3: return ask("as", aLine(), in(0, 5));
            case 4: return ask("stands", aStation(), in(0, 3));
            default: return ask("now", in(0, 7));
        }
    }

    private boolean askWhatCanBe() throws Exception {
        switch (random.nextInt(7)) {
            case 0: case 1: return ask("most", aStation(), aTick());
            case 2: return ask("quick", aStation(), random.nextBoolean() ? in(0, 2000) : upTo(model.now.goods()));
            case 3: return ask("all", aStation());
            case 4: case 5: return ask("near", aStation(), aStation(), aTick());
            default: return costSome();
        }
    }

    private boolean askWhichIsBest() throws Exception {
        switch (random.nextInt(6)) {
            case 0: return ask("lose", aStation(), aTick());
            case 1: return ask("widen", aStation(), aTick());
            case 2: return ask("held", aLine(), aStation(), aTick());
            case 3: return ask("begin", aStation(), aTick());
            case 4: return ask("kind", aLine(), aStation(), aTick());
            default: return ask("goal", aTick());
        }
    }

    private boolean askWhatGoesOn() throws Exception {
        int a = aStation();
        int b = aStation();
        switch (random.nextInt(4)) {
            case 0: return ask("steady", a, b, random.nextInt(4) == 0 ? random.nextInt() : upTo(60));
            case 1: return ask("rate", a, b);
            case 2: return ask("gain", a, b, random.nextInt(4) == 0 ? in(0, 120) : upTo(20));
            default: return ask("reach", a, b, random.nextInt(3) == 0 ? random.nextInt() : upTo(900));
        }
    }

    private boolean useSheets() throws Exception {
        switch (random.nextInt(9)) {
            case 0: return ask("sheet", in(0, 3), new int[] {16, 16, 32, 32, 64, 64, 0, 8}[upTo(7)], in(0, 40));
            case 1: return ask("write", in(0, 3), in(0, 39), aLong());
            case 2: return ask("copy", upTo(3), in(0, 9), upTo(3), in(0, 9), in(0, 20));
            case 3: case 4: return laySome();
            case 5: return ask("book", in(0, 3), aStation());
            default: return planSome();
        }
    }

    private boolean readSome() throws Exception {
        return random.nextInt(4) > 0 ? feed(anyText()) && (random.nextInt(4) == 0 || ask("text"))
                : ask(random.nextBoolean() ? "wipe" : "text");
    }

    private boolean keepSome() throws Exception {
        switch (random.nextInt(8)) {
            case 0: case 1: case 2: return ask("image");
            case 3: return random.nextInt(3) > 0 || ask("tear");
            case 4: case 5: return ask("undo");
            default: return ask("count", in(0, 5)) && ask("status", in(-1, 7));
        }
    }

    private boolean sendSome() throws Exception {
        int line = aLine();
        if (!model.isWay(line)) {
            return ask("send", line, 1);
        }
        Model.Way way = model.now.ways.get(line);
        int can = Math.min(way.room(model.now.tick) - way.sent, model.now.places.get(way.told[1]).stock);
        return ask("send", line, upTo(Math.max(0, can) + 1));
    }

    private boolean laySome() throws Exception {
        int s = in(0, 3);
        boolean fine = true;
        for (int i = 0; i < 6 && fine; i++) {
            fine = random.nextInt(5) == 0 || ask("write", s, i, (long) upTo(1100) - 20);
        }
        return fine && ask("lays", s);
    }

    private long aLong() {
        return random.nextInt(5) == 0 ? random.nextLong() : upTo(40) - 2;
    }

    private boolean setSome() throws Exception {
        int what = in(0, 2);
        int[] most = {3, 999, 99};
        return ask("set", aStation(), what, in(0, what >= 0 && what < 3 ? most[what] : 9));
    }

    private boolean changeSome() throws Exception {
        int what = in(0, 7);
        int last = model.now.places.size() - 1;
        int[] most = {5, last, last, 99, 9, 5, 99, 99999};
        int high = what >= 0 && what < 8 ? most[what] : 9;
        int v = what == 7 && random.nextBoolean() ? model.now.tick + upTo(20) : in(what == 4 ? 1 : 0, high);
        return ask("change", aLine(), what, v);
    }

    private boolean costSome() throws Exception {
        int s = in(0, 3);
        boolean fine = true;
        int g = aStation();
        for (int i = 0; i < 6 && random.nextInt(8) > 0 && fine; i++) {
            fine = ask("write", s, i, (long) (i == g ? -1 : upTo(28) - 2));
        }
        return fine && ask("cost", s, g, aTick());
    }

    private boolean planSome() throws Exception {
        int s = in(0, 3);
        boolean fine = true;
        for (int i = 0; i < 4 && fine && random.nextInt(6) > 0; i++) {
            fine = ask("write", s, 3 * i, (long) aLine()) && ask("write", s, 3 * i + 1, (long) upTo(9) - 1)
                    && ask("write", s, 3 * i + 2, (long) upTo(8) - (random.nextInt(9) == 0 ? 1 : 0));
        }
        int g = aStation();
        return fine && ask("replay", s, g, aTick()) && (random.nextBoolean() || ask("run", s, g, in(0, 24)));
    }

    private boolean build() throws Exception {
        boolean fine = true;
        int stations = 2 + random.nextInt(5);
        int goods = random.nextBoolean() ? 999 : 60;
        for (int i = 0; i < stations && fine; i++) {
            fine = ask("station", random.nextInt(4), random.nextInt(3) == 0 ? 0 : upTo(goods));
        }
        int lines = 3 + random.nextInt(8);
        int wide = random.nextBoolean() ? 99 : 12;
        for (int i = 0; i < lines && fine; i++) {
            int from = random.nextInt(stations);
            int to = (from + 1 + random.nextInt(stations - 1)) % stations;
            fine = ask("line", random.nextInt(6), from, to, upTo(wide), 1 + random.nextInt(random.nextBoolean() ? 9 : 2));
        }
        for (int i = 0; i < 4 && fine; i++) {
            fine = ask("sheet", i, 16 << random.nextInt(3), 20 + upTo(20));
        }
        return fine;
    }

    private boolean isRight() throws Exception {
        boolean fine = random.nextInt(6) == 0 || build();
        while (fine && calls.size() < CALLS) {
            fine = step();
        }
        return fine;
    }

    public static void main(String[] args) throws Exception {
        int wrong = 0;
        for (int i = 0; i < RUNS; i++) {
            if (!new ModelTest(SEED + i, i % 3 == 0 ? 8 : 24).isRight()) {
                System.out.println("run " + i + " is wrong");
                wrong++;
                break;
            }
        }
        System.out.println(wrong == 0 ? RUNS + " runs are as the model's" : "a run isn't as the model's");
        System.exit(wrong == 0 ? 0 : 1);
    }
}
