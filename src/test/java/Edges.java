import java.lang.reflect.InvocationTargetException;
import java.lang.reflect.Method;
import java.lang.reflect.Modifier;
import java.util.ArrayList;
import java.util.Comparator;
import java.util.List;
import java.util.regex.Matcher;
import java.util.regex.Pattern;

/**
 * What the tests of the edges share. Each is a method named after its promise's number; one that tells of a
 * refused call does it on one of two twins, and all that can be asked of both must be answered alike behind it.
 */
final class Edges {
    static final int LOW = Integer.MIN_VALUE;
    static final int HIGH = Integer.MAX_VALUE;

    private static final Pattern NAME = Pattern.compile("promise(\\d+)[A-Z].*");
    private static String at = "";

    interface Build {
        GoodsUnderWay make();
    }

    interface Call {
        long on(GoodsUnderWay x);
    }

    private Edges() { }

    // ---- running

    private static int number(Method test) {
        Matcher matcher = NAME.matcher(test.getName());
        return matcher.matches() ? Integer.parseInt(matcher.group(1)) : -1;
    }

    /** Runs every test of a class; each promise from the first to the last must have one. */
    static void run(Class<?> of, int first, int last) throws IllegalAccessException, InvocationTargetException {
        List<Method> tests = new ArrayList<>();
        for (Method method : of.getDeclaredMethods()) {
            if (number(method) >= 0 && Modifier.isStatic(method.getModifiers())) {
                tests.add(method);
            }
        }
        tests.sort(Comparator.comparingInt(Edges::number).thenComparing(Method::getName));
        boolean[] has = new boolean[43];
        for (Method test : tests) {
            at = test.getName();
            has[number(test)] = true;
            test.invoke(null);
        }
        for (int i = first; i <= last; i++) {
            Check.holds("promise " + i + " has a test", has[i]);
        }
        System.out.println(tests.size() + " edges of promises " + first + " to " + last);
        Check.end();
    }

    // ---- comparing

    static void due(long due, long got) {
        Check.due(at, due, got);
    }

    static void dueOf(String what, long due, long got) {
        Check.due(at + ": " + what, due, got);
    }

    static void dues(long due, long... got) {
        for (int i = 0; i < got.length; i++) {
            Check.due(at + " [" + i + "]", due, got[i]);
        }
    }

    static void holds(boolean does) {
        Check.holds(at, does);
    }

    static void holdsNoFinding(long got) {
        Check.holds(at + ": no finding", got > -1000000000);
    }

    static void row(String what, long[] due, long... got) {
        Check.due(at + ": how many " + what, due.length, got.length);
        for (int i = 0; i < due.length && i < got.length; i++) {
            Check.due(at + ": " + what + " " + i, due[i], got[i]);
        }
    }

    /** A row that is due, to be told ahead of the one that is got. */
    static long[] is(long... due) {
        return due;
    }

    /** A sheet's numbers from its begin on, which stay as they are. */
    static long[] numbers(GoodsUnderWay x, int sheet, int n) {
        long[] row = new long[n];
        for (int i = 0; i < n; i++) {
            row[i] = x.write(sheet, i, 0);
            x.write(sheet, i, row[i]);
        }
        return row;
    }

    /** Of a station: what 0, 1, .. */
    static long[] of(GoodsUnderWay x, int station, int n) {
        long[] row = new long[n];
        for (int i = 0; i < n; i++) {
            row[i] = x.of(station, i);
        }
        return row;
    }

    /** Of a line: what 0, 1, .. */
    static long[] its(GoodsUnderWay x, int line, int n) {
        long[] row = new long[n];
        for (int i = 0; i < n; i++) {
            row[i] = x.its(line, i);
        }
        return row;
    }

    // ---- objects

    /** Yard 0 with goods, shed 1, quay 2; a road 0 to 1 and a road 1 to 2. */
    static GoodsUnderWay chain(int stock, int wide, int length) {
        GoodsUnderWay x = new GoodsUnderWay();
        x.station(0, stock);
        x.station(1, 0);
        x.station(2, 0);
        x.line(0, 0, 1, wide, length);
        x.line(0, 1, 2, wide, length);
        return x;
    }

    /** Yards 0 (with goods) and 1; a line 0 to 1. */
    static GoodsUnderWay pair(int stock, int kind, int wide, int length) {
        GoodsUnderWay x = new GoodsUnderWay();
        x.station(0, stock);
        x.station(0, 0);
        x.line(kind, 0, 1, wide, length);
        return x;
    }

    /** So many yards without goods. */
    static GoodsUnderWay yards(int n) {
        GoodsUnderWay x = new GoodsUnderWay();
        for (int i = 0; i < n; i++) {
            x.station(0, 0);
        }
        return x;
    }

    static void write(GoodsUnderWay x, int sheet, int bits, long... numbers) {
        x.sheet(sheet, bits, numbers.length);
        for (int i = 0; i < numbers.length; i++) {
            x.write(sheet, i, numbers[i]);
        }
    }

    /** Puts a text on the tape, four bytes a call, so that few calls are used. */
    static void feed(GoodsUnderWay x, String text) {
        for (int place = 0; place < text.length(); place += 4) {
            int n = Math.min(4, text.length() - place);
            int bytes = 0;
            for (int i = 0; i < n; i++) {
                bytes = bytes << 8 | text.charAt(place + i);
            }
            x.feed(bytes, n);
        }
    }

    static int read(GoodsUnderWay x, String text) {
        feed(x, text);
        return x.text();
    }

    /** Something of everything: kinds, goods that are sent, under way, lost, an image, sheets, a tape. */
    static GoodsUnderWay rich() {
        GoodsUnderWay x = richUnfed();
        feed(x, "yard stock 7;road 4 0");
        return x;
    }

    /** The same, but that its tape is empty. */
    static GoodsUnderWay richUnfed() {
        GoodsUnderWay x = new GoodsUnderWay();
        x.station(0, 120);
        x.station(1, 30);
        x.station(2, 40);
        x.station(3, 50);
        x.line(0, 0, 1, 9, 2);
        x.line(1, 0, 2, 8, 4);
        x.line(2, 1, 3, 7, 1);
        x.line(4, 2, 3, 3, 2);
        x.line(5, 3, 0, 5, 5);
        x.change(2, 5, 1);
        x.change(0, 6, 4);
        x.change(0, 7, 12);
        x.image();
        x.send(0, 5);
        x.send(1, 8);
        x.send(3, 9);
        x.go(1);
        x.send(0, 4);
        x.send(2, 6);
        x.send(4, 7);
        write(x, 0, 16, 0, 1, 2, 4, 0, 3);
        write(x, 1, 32, 5, -6, 7);
        write(x, 2, 64, 1L << 40, -1);
        return x;
    }

    /** Six stations, ten lines. */
    static GoodsUnderWay full() {
        GoodsUnderWay x = new GoodsUnderWay();
        for (int i = 0; i < 6; i++) {
            x.station(i % 4, 10 + i);
        }
        for (int i = 0; i < 10; i++) {
            x.line(i % 6, i % 6, (i + 1) % 6, 3 + i, 1 + i % 9);
        }
        x.image();
        x.send(0, 2);
        x.go(1);
        return x;
    }

    // ---- twins

    private static void lookAt(GoodsUnderWay x, List<Long> seen) {
        for (int i = 0; i < 6; i++) {
            seen.add((long) x.count(i));
        }
        for (int i = 1; i < 8; i++) {
            seen.add((long) x.now(i));
        }
        int stations = x.count(1);
        for (int i = 0; i < stations; i++) {
            for (int what = 0; what < 5; what++) {
                seen.add((long) x.of(i, what));
            }
        }
        int lines = x.count(2);
        for (int i = 0; i < lines; i++) {
            for (int what = 0; what < 12; what++) {
                seen.add((long) x.its(i, what));
            }
        }
    }

    /** All that can be asked of it, and then what it becomes; the object is used up by that. */
    private static List<Long> seen(GoodsUnderWay x) {
        List<Long> seen = new ArrayList<>();
        lookAt(x, seen);
        for (int s = 0; s < 4; s++) {
            for (int i = 0; i < 7; i++) {
                seen.add(x.write(s, i, i));
            }
        }
        for (int i = 0; i < 4; i++) {
            seen.add((long) x.go(1));
            seen.add((long) x.now(2));
            seen.add((long) x.of(i, 1));
        }
        seen.add((long) x.text());
        seen.add((long) x.count(4));
        seen.add((long) x.undo());
        lookAt(x, seen);
        seen.add((long) x.tear());
        return seen;
    }

    private static long[] findings(GoodsUnderWay x) {
        long[] row = new long[9];
        for (int i = 0; i < 9; i++) {
            row[i] = x.status(i - 1);
        }
        return row;
    }

    /** Whatever is asked of both, they answer it alike. */
    static void alike(GoodsUnderWay x, GoodsUnderWay twin) {
        row("findings", findings(twin), findings(x));
        List<Long> due = seen(twin);
        List<Long> got = seen(x);
        Check.holds(at + ": all else is as without the call: " + got + ", due is " + due, due.equals(got));
    }

    /** Each call answers the finding, which is counted once, and nothing else changes. */
    static void refusedBy(Build build, int finding, Call... calls) {
        for (Call call : calls) {
            GoodsUnderWay x = build.make();
            GoodsUnderWay twin = build.make();
            due(finding, call.on(x));
            long[] due = findings(twin);
            due[0]++;
            due[Check.BEYOND - finding + 1]++;
            row("findings", due, findings(x));
            List<Long> seenOfTwin = seen(twin);
            List<Long> seen = seen(x);
            Check.holds(at + ": nothing else changes: " + seen + ", due is " + seenOfTwin, seenOfTwin.equals(seen));
        }
    }

    static void refused(int finding, Call... calls) {
        refusedBy(Edges::rich, finding, calls);
    }

    /** The calls answer no finding, and change nothing. */
    static void keepsAll(Call... calls) {
        GoodsUnderWay x = rich();
        for (Call call : calls) {
            holdsNoFinding(call.on(x));
        }
        alike(x, rich());
    }
}
