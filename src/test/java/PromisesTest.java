/** For each promise: ordinary inputs, the edges that the document names, and wrong inputs in their order. */
public final class PromisesTest {
    private static final int BEYOND = Check.BEYOND;
    private static final int FULL = Check.FULL;
    private static final int KIND = Check.KIND;
    private static final int NONE = Check.NONE;
    private static final int STATE = Check.STATE;
    private static final int MISSING = Check.MISSING;
    private static final int SIZE = Check.SIZE;
    private static final int OVER = Check.OVER;
    private static final int LOW = Integer.MIN_VALUE;
    private static final int HIGH = Integer.MAX_VALUE;

    private static String at = "";

    private PromisesTest() { }

    private static void due(long due, long got) {
        Check.due(at, due, got);
    }

    private static void dues(long due, long... got) {
        for (int i = 0; i < got.length; i++) {
            Check.due(at + " [" + i + "]", due, got[i]);
        }
    }

    /** Yard 0 with goods, shed 1, quay 2; a road 0 to 1 and a road 1 to 2. */
    private static GoodsUnderWay chain(int stock, int wide, int length) {
        GoodsUnderWay x = new GoodsUnderWay();
        x.station(0, stock);
        x.station(1, 0);
        x.station(2, 0);
        x.line(0, 0, 1, wide, length);
        x.line(0, 1, 2, wide, length);
        return x;
    }

    private static void write(GoodsUnderWay x, int sheet, long... numbers) {
        x.sheet(sheet, 64, numbers.length);
        for (int i = 0; i < numbers.length; i++) {
            x.write(sheet, i, numbers[i]);
        }
    }

    /** The answers must be these, by what 0, 1, 2, .. */
    private static void station(GoodsUnderWay x, int station, int... answers) {
        for (int i = 0; i < answers.length; i++) {
            Check.due(at + ": of(" + station + ", " + i + ")", answers[i], x.of(station, i));
        }
    }

    private static void line(GoodsUnderWay x, int line, int... answers) {
        for (int i = 0; i < answers.length; i++) {
            Check.due(at + ": its(" + line + ", " + i + ")", answers[i], x.its(line, i));
        }
    }

    private static void promise1() {
        GoodsUnderWay x = new GoodsUnderWay();
        dues(0, x.count(0), x.count(1), x.count(2), x.count(3), x.count(4), x.count(5));
        dues(0, x.now(0), x.now(1), x.now(2), x.now(3), x.now(4), x.now(5), x.now(6), x.now(7));
        dues(0, x.wipe(), x.tear(), x.status(-1));
        due(NONE, x.undo());
        dues(MISSING, x.lays(0), x.lays(1), x.lays(2), x.lays(3));
    }

    private static void promise2() {
        GoodsUnderWay x = new GoodsUnderWay();
        dues(BEYOND, x.station(-1, 0), x.station(4, 0), x.station(0, -1), x.station(0, 1000), x.station(LOW, HIGH));
        for (int i = 0; i < 4; i++) {
            due(i, x.station(i, 10 * i));
            station(x, i, i, 10 * i, 20);
        }
        due(4, x.station(0, 0));
        due(5, x.station(3, 999));
        due(999, x.of(5, 1));
        due(FULL, x.station(0, 0));
        due(BEYOND, x.station(0, 1000));
        due(6, x.count(1));
    }

    private static void promise3() {
        GoodsUnderWay x = new GoodsUnderWay();
        dues(BEYOND, x.line(0, 0, 1, 1, 1), x.line(0, 0, 0, 1, 1));
        x.station(0, 0);
        x.station(0, 0);
        dues(BEYOND, x.line(-1, 0, 1, 1, 1), x.line(6, 0, 1, 1, 1), x.line(0, -1, 1, 1, 1), x.line(0, 2, 1, 1, 1),
                x.line(0, 0, -1, 1, 1), x.line(0, 0, 2, 1, 1), x.line(0, 1, 1, 1, 1), x.line(0, 0, 1, -1, 1),
                x.line(0, 0, 1, 100, 1), x.line(0, 0, 1, 1, 0), x.line(0, 0, 1, 1, 10));
        for (int i = 0; i < 6; i++) {
            due(i, x.line(i, i % 2, 1 - i % 2, 10 * i, i + 1));
            line(x, i, i, i % 2, 1 - i % 2, 10 * i, i + 1, 0, 0, 99999);
            dues(0, x.its(i, 10), x.its(i, 11));
        }
        due(6, x.line(0, 0, 1, 0, 9));
        due(7, x.line(0, 0, 1, 99, 1));
        due(8, x.line(0, 0, 1, 1, 1));
        due(9, x.line(0, 0, 1, 1, 1));
        due(FULL, x.line(0, 0, 1, 1, 1));
        due(BEYOND, x.line(0, 0, 0, 1, 1));
        due(10, x.count(2));
    }

    /** A line, undone with goods on it, leaves none to the next one of its number. */
    private static void promise3AfterUndo() {
        GoodsUnderWay x = new GoodsUnderWay();
        x.station(0, 9);
        x.station(0, 0);
        x.image();
        x.line(4, 0, 1, 9, 9);
        x.change(0, 5, 2);
        x.change(0, 6, 3);
        x.change(0, 7, 4);
        x.go(2);
        x.send(0, 5);
        x.undo();
        due(0, x.line(0, 0, 1, 9, 9));
        line(x, 0, 0, 0, 1, 9, 9, 0, 0, 99999, 9, 9, 0, 0);
        due(0, x.of(1, 4));
    }

    private static void promise4() {
        GoodsUnderWay x = new GoodsUnderWay();
        for (int i = 0; i < 4; i++) {
            x.station(i, i);
            x.set(i, 2, 30);
        }
        int[][] holds = {{99999, 99999, 99999, 99999, 99999, 99999, 99999}, {30, 30, 30, 30, 30, 30, 30},
            {99999, 30, 99999, 30, 99999, 30, 99999}, {40, 30, 30, 40, 30, 30, 40}};
        for (int t = 0; t < 7; t++) {
            for (int i = 0; i < 4; i++) {
                station(x, i, i, i, 30, holds[i][t], 0);
            }
            x.go(1);
        }
        dues(BEYOND, x.of(-1, 0), x.of(4, 0), x.of(0, -1), x.of(0, 5), x.of(HIGH, LOW));
        x = chain(50, 9, 3);
        x.line(0, 0, 2, 9, 1);
        x.send(0, 7);
        x.go(1);
        x.send(0, 5);
        x.send(2, 4);
        dues(0, x.of(0, 4));
        due(12, x.of(1, 4));
        due(4, x.of(2, 4));
        x.change(0, 2, 2);
        due(0, x.of(1, 4));
        due(16, x.of(2, 4));
    }

    private static int[] rooms(int kind, int wide, int length, int tide, int later, int shift) {
        GoodsUnderWay x = chain(0, wide, length);
        x.change(0, 0, kind);
        x.change(0, 5, tide);
        x.change(0, 6, later);
        x.change(0, 7, shift);
        int[] rooms = new int[12];
        for (int t = 0; t < 12; t++) {
            rooms[t] = x.its(0, 8);
            x.go(1);
        }
        return rooms;
    }

    private static void room(int[] got, int... due) {
        for (int t = 0; t < due.length; t++) {
            Check.due(at + ": room in tick " + t, due[t], got[t]);
        }
    }

    private static void promise5Room() {
        room(rooms(0, 7, 5, 3, 4, 8), 7, 7, 7, 7, 7, 7, 7, 7, 4, 4, 4, 4);
        room(rooms(1, 7, 5, 3, 4, 7), 7, 0, 7, 0, 7, 0, 7, 0, 4, 0, 4, 0);
        room(rooms(3, 7, 5, 3, 5, 7), 3, 0, 3, 0, 3, 0, 3, 0, 2, 0, 2, 0);
        room(rooms(2, 7, 5, 3, 4, 9), 0, 0, 0, 7, 7, 7, 0, 0, 0, 4, 4, 4);
        room(rooms(4, 7, 5, 1, 4, 9), 0, 21, 21, 21, 21, 21, 0, 21, 21, 12, 12, 12);
        room(rooms(2, 7, 5, 0, 4, 99), 7, 7, 7, 7, 7, 7, 7, 7, 7, 7, 7, 7);
        room(rooms(2, 7, 5, 5, 4, 99), 0, 0, 0, 0, 0, 7, 0, 0, 0, 0, 0, 7);
        room(rooms(5, 7, 5, 3, 4, 8), 14, 14, 14, 14, 14, 14, 14, 14, 8, 8, 8, 8);
        room(rooms(5, 7, 4, 3, 4, 8), 7, 7, 7, 7, 7, 7, 7, 7, 4, 4, 4, 4);
        room(rooms(0, 7, 4, 3, 4, 0), 4, 4, 4, 4);
    }

    private static void promise5() {
        GoodsUnderWay x = chain(50, 9, 7);
        int[][] takes = {{7, 1, 9}, {3, 1, 4}, {8, 2, 10}, {1, 1, 1}, {10, 4, 12}, {7, 1, 9}};
        x.change(0, 5, 2);
        for (int i = 0; i < 6; i++) {
            x.change(0, 0, i);
            x.change(0, 4, 7);
            due(takes[i][0], x.its(0, 9));
            x.change(0, 4, 1);
            due(takes[i][1], x.its(0, 9));
            x.change(0, 4, 9);
            due(takes[i][2], x.its(0, 9));
        }
        dues(BEYOND, x.its(-1, 0), x.its(2, 0), x.its(0, -1), x.its(0, 12), x.its(LOW, LOW), x.its(HIGH, HIGH));
        x = chain(50, 9, 7);
        x.send(0, 4);
        x.send(0, 3);
        due(7, x.its(0, 10));
        due(7, x.its(0, 11));
        due(9, x.its(0, 8));
        x.go(1);
        x.send(0, 2);
        due(2, x.its(0, 10));
        due(9, x.its(0, 11));
        dues(0, x.its(1, 10), x.its(1, 11));
        x.go(6);
        due(2, x.its(0, 11));
        promise5Room();
    }

    private static void promise6() {
        GoodsUnderWay x = chain(50, 9, 1);
        due(0, x.set(0, 0, 3));
        due(3, x.set(0, 0, 1));
        due(50, x.set(0, 1, 999));
        due(999, x.set(0, 1, 0));
        due(20, x.set(0, 2, 99));
        due(99, x.set(0, 2, 0));
        station(x, 0, 1, 0, 0, 0);
        dues(BEYOND, x.set(-1, 0, 0), x.set(3, 0, 0), x.set(0, -1, 0), x.set(0, 3, 0), x.set(0, 0, -1), x.set(0, 0, 4),
                x.set(0, 1, -1), x.set(0, 1, 1000), x.set(0, 2, -1), x.set(0, 2, 100));
        station(x, 0, 1, 0, 0, 0);
    }

    private static void promise7() {
        GoodsUnderWay x = chain(50, 9, 2);
        int[] were = {0, 0, 1, 9, 2, 0, 0, 99999};
        int[] become = {5, 2, 0, 99, 9, 5, 99, 0};
        for (int i = 0; i < 8; i++) {
            due(were[i], x.change(0, i, become[i]));
            due(become[i], x.its(0, i));
        }
        line(x, 1, 0, 1, 2, 9, 2, 0, 0, 99999);
        int[] least = {0, 0, 0, 0, 1, 0, 0, 0};
        int[] most = {5, 2, 2, 99, 9, 5, 99, 99999};
        for (int i = 0; i < 8; i++) {
            dues(BEYOND, x.change(0, i, least[i] - 1), x.change(0, i, most[i] + 1), x.change(0, i, LOW), x.change(0, i, HIGH));
        }
        dues(BEYOND, x.change(-1, 0, 0), x.change(2, 0, 0), x.change(0, -1, 0), x.change(0, 8, 0));
        due(BEYOND, x.change(0, 1, 0));
        due(BEYOND, x.change(0, 2, 2));
        line(x, 0, become);
        due(2, x.change(0, 1, 1));
        due(0, x.change(0, 2, 0));
        due(99, x.change(0, 3, 0));
        due(9, x.change(0, 4, 1));
        due(0, x.change(0, 7, 99999));
    }

    private static void promise8() {
        GoodsUnderWay x = chain(0, 9, 2);
        int[][] are = {{1, 0, 0, 0, 0, 0}, {1, 1, 0, 0, 0, 0}, {1, 0, 1, 0, 0, 0}, {1, 1, 0, 1, 0, 0},
            {1, 0, 1, 0, 1, 0}, {1, 0, 0, 0, 0, 1}};
        for (int kind = 0; kind < 6; kind++) {
            x.change(1, 0, kind);
            for (int asked = 0; asked < 6; asked++) {
                due(are[kind][asked] == 1 ? 9 : KIND, x.as(1, asked));
            }
        }
        dues(BEYOND, x.as(-1, 0), x.as(2, 0), x.as(0, -1), x.as(0, 6));
    }

    private static void promise9() {
        GoodsUnderWay x = chain(0, 9, 2);
        x.set(1, 2, 33);
        int[][] are = {{1, 0, 0, 0}, {1, 1, 0, 0}, {1, 0, 1, 0}, {1, 1, 0, 1}};
        for (int kind = 0; kind < 4; kind++) {
            x.set(1, 0, kind);
            for (int asked = 0; asked < 4; asked++) {
                due(are[kind][asked] == 1 ? 33 : KIND, x.stands(1, asked));
            }
        }
        dues(BEYOND, x.stands(-1, 0), x.stands(3, 0), x.stands(0, -1), x.stands(0, 4));
    }

    private static void promise10() {
        GoodsUnderWay x = chain(12, 9, 2);
        dues(BEYOND, x.send(-1, 1), x.send(2, 1), x.send(0, -1), x.send(0, 10000), x.send(LOW, 0));
        dues(STATE, x.send(0, 10), x.send(0, 9999), x.send(1, 1));
        due(0, x.send(1, 0));
        due(7, x.send(0, 5));
        dues(STATE, x.send(0, 5));
        due(3, x.send(0, 4));
        due(STATE, x.send(0, 1));
        due(3, x.send(0, 0));
        x.change(0, 3, 8);
        due(STATE, x.send(0, 0));
        x.change(0, 3, 99);
        due(STATE, x.send(0, 4));
        due(0, x.send(0, 3));
        // Its length and goal may change under way: the tick stays, the station is the one then.
        x.change(0, 4, 9);
        x.change(0, 2, 2);
        x.go(1);
        dues(0, x.of(1, 1), x.of(2, 1), x.its(0, 10));
        x.go(1);
        due(12, x.of(2, 1));
        due(0, x.now(2));
    }

    private static void promise11() {
        GoodsUnderWay x = chain(50, 30, 1);
        dues(BEYOND, x.go(0), x.go(-1), x.go(61), x.go(LOW), x.go(HIGH));
        x.send(0, 30);
        due(0, x.go(1));
        due(30, x.of(1, 1));
        due(10, x.go(1));
        due(20, x.of(1, 1));
        due(10, x.go(60));
        due(62, x.now(0));
        x.set(1, 2, 5);
        due(25, x.go(1));
        due(5, x.of(1, 1));
        // A barge takes 15 ticks at most, far beyond what goods may wait in the ring.
        x = chain(50, 30, 9);
        x.change(0, 0, 4);
        x.change(0, 5, 5);
        x.go(5);
        due(20, x.send(0, 30));
        x.go(14);
        dues(0, x.of(1, 1));
        due(30, x.of(1, 4));
        x.go(1);
        due(30, x.of(1, 1));
        due(0, x.of(1, 4));
        // What is lost is what can't be held in the tick that goes, ahead of what comes.
        x = new GoodsUnderWay();
        x.station(2, 500);
        x.station(3, 500);
        due(470, x.go(1));
        due(960, x.go(1));
        station(x, 0, 2, 20);
        station(x, 1, 3, 20);
    }

    private static void promise12Edges() {
        GoodsUnderWay x = new GoodsUnderWay();
        x.station(1, 21);
        x.station(1, 1);
        x.station(1, 0);
        x.line(0, 0, 1, 3, 1);
        x.line(0, 1, 0, 3, 1);
        x.line(0, 2, 0, 3, 1);
        due(1, x.now(6));
        due(3, x.now(7));
        x.send(0, 2);
        due(3, x.now(7));
        x.send(0, 1);
        due(2, x.now(7));
        x.send(1, 1);
        due(0, x.now(7));
        due(0, x.now(6));
    }

    private static void promise12() {
        GoodsUnderWay x = chain(50, 9, 2);
        x.station(1, 21);
        x.station(1, 20);
        x.line(2, 3, 0, 8, 1);
        x.change(2, 5, 1);
        x.line(1, 4, 0, 6, 2);
        x.send(0, 9);
        x.send(3, 2);
        int[] due = {0, 41 + 21 + 18, 11, 0, 11, 9 + 9 + 0 + 6, 8, 8};
        for (int i = 0; i < 8; i++) {
            Check.due(at + ": now(" + i + ")", due[i], x.now(i));
        }
        dues(BEYOND, x.now(-1), x.now(8), x.now(LOW), x.now(HIGH));
        x.go(1);
        due = new int[] {1, 41 + 20 + 20, 9, 1, 0, 9 + 9 + 8 + 0, 0, 5};
        for (int i = 0; i < 8; i++) {
            Check.due(at + ": now(" + i + ") then", due[i], x.now(i));
        }
    }

    private static void promise13() {
        GoodsUnderWay x = chain(50, 9, 2);
        long[] due = {0, 0, 0, 0, 9, 18, 27, 36, 45, 50, 50};
        for (int n = 0; n < due.length; n++) {
            Check.due(at + ": most(2, " + n + ")", due[n], x.most(2, n));
        }
        due(50, x.most(2, 24));
        due(50, x.most(0, 0));
        dues(BEYOND, x.most(-1, 0), x.most(3, 0), x.most(0, -1), x.most(0, 25), x.most(LOW, 0), x.most(0, HIGH));
        // What was sent takes room in this tick alone; what is under way comes.
        x.send(0, 4);
        due(46, x.most(0, 0));
        dues(9, x.most(1, 2));
        due(18, x.most(1, 3));
        x.change(0, 3, 2);
        due(4, x.most(1, 2));
        due(6, x.most(1, 3));
        due(0, x.most(1, 1));
        // The goal needs no room to hold; another station does.
        x = chain(50, 40, 1);
        x.set(1, 2, 0);
        x.change(1, 3, 30);
        due(50, x.most(1, 2));
        due(30, x.most(2, 2));
        due(50, x.most(2, 3));
        // Room that changes from a told tick on.
        x = chain(99, 2, 1);
        x.change(0, 6, 9);
        x.change(0, 7, 3);
        dues(6, x.most(1, 3));
        dues(15, x.most(1, 4));
    }

    private static void promise13Holds() {
        // A quay holds in even ticks, a vault ten more in each third one; here goods wait at them.
        GoodsUnderWay x = new GoodsUnderWay();
        x.station(2, 100);
        x.station(0, 0);
        x.set(0, 2, 5);
        x.line(0, 0, 1, 1, 1);
        x.change(0, 6, 99);
        x.change(0, 7, 1);
        due(100, x.most(1, 2));
        x.go(1);
        x.set(0, 1, 100);
        x.change(0, 7, 2);
        due(6, x.most(1, 2));
        x.set(0, 0, 3);
        due(6, x.most(1, 2));
        x.go(2);
        x.set(0, 1, 100);
        x.change(0, 7, 4);
        due(16, x.most(1, 2));
        // What comes in the next tick, and 15 ticks ahead, and in a tick by sixteens.
        x = chain(50, 9, 9);
        x.change(0, 0, 4);
        x.change(0, 5, 5);
        x.go(5);
        x.send(0, 20);
        x.change(0, 3, 0);
        x.go(1);
        due(0, x.most(1, 13));
        due(20, x.most(1, 14));
        x = chain(50, 9, 9);
        x.change(0, 0, 4);
        x.change(0, 5, 5);
        x.go(11);
        x.change(0, 5, 4);
        x.send(0, 20);
        x.change(0, 3, 0);
        due(0, x.most(1, 13));
        due(20, x.most(1, 14));
        x.change(0, 5, 5);
        x.change(0, 3, 9);
        x.send(0, 7);
        x.change(0, 3, 0);
        due(20, x.most(1, 14));
        due(27, x.most(1, 15));
        x.go(13);
        due(0, x.most(1, 0));
        due(20, x.most(1, 1));
        due(27, x.most(1, 2));
        x = chain(50, 9, 1);
        x.go(15);
        x.send(0, 9);
        due(9, x.its(0, 11));
        due(9, x.of(1, 4));
    }

    private static void promise14() {
        GoodsUnderWay x = chain(50, 9, 2);
        due(0, x.quick(2, 0));
        due(4, x.quick(2, 1));
        due(4, x.quick(2, 9));
        due(5, x.quick(2, 10));
        due(9, x.quick(2, 50));
        dues(NONE, x.quick(2, 51), x.quick(2, HIGH));
        dues(BEYOND, x.quick(2, -1), x.quick(-1, 0), x.quick(3, 0), x.quick(2, LOW));
        x = chain(23, 1, 1);
        due(24, x.quick(2, 23));
        x.set(0, 1, 24);
        due(NONE, x.quick(2, 24));
    }

    private static void promise15() {
        GoodsUnderWay x = chain(50, 9, 2);
        dues(9, x.all(2));
        due(0, x.all(0));
        x.send(0, 9);
        dues(9, x.all(2));
        due(NONE, x.all(0));
        dues(BEYOND, x.all(-1), x.all(3));
        x.go(2);
        x.go(1);
        x.set(1, 1, 0);
        due(8, x.all(2));
        x.set(1, 2, 0);
        x.set(1, 1, 200);
        due(NONE, x.all(2));
        x = chain(24, 1, 1);
        due(NONE, x.all(2));
        x.set(0, 1, 23);
        due(24, x.all(2));
    }

    private static void promise16() {
        GoodsUnderWay x = chain(50, 9, 2);
        // 9 can come behind 4 ticks: those left over stay at the yard, up to the last that can leave.
        due(9, x.most(2, 4));
        due(0b11111, x.near(0, 2, 4));
        due(0b11000, x.near(1, 2, 4));
        due(0, x.near(2, 2, 4));
        dues(0, x.near(0, 2, 24), x.near(1, 2, 24));
        dues(BEYOND, x.near(-1, 2, 4), x.near(3, 2, 4), x.near(0, -1, 4), x.near(0, 3, 4), x.near(0, 2, -1), x.near(0, 2, 25));
        x.set(0, 0, 1);
        x.set(0, 2, 0);
        due(0b1, x.near(0, 2, 24));
        due(0, x.near(1, 2, 24));
    }

    private static void promise17() {
        GoodsUnderWay x = chain(50, 9, 2);
        x.set(1, 1, 7);
        dues(BEYOND, x.cost(-1, 2, 4), x.cost(4, -1, -1));
        due(MISSING, x.cost(0, -1, -1));
        write(x, 0, 0, 1, -1);
        dues(BEYOND, x.cost(0, -1, 4), x.cost(0, 3, 4), x.cost(0, 2, -1), x.cost(0, 2, 25));
        dues(STATE, x.cost(0, 1, 4), x.cost(0, 0, 4));
        // Shed 1 has 7 outside; its pairs 1, 2 lead to the quay within 4 ticks; road 0 stays inside.
        due(7 + 2 * 9, x.cost(0, 2, 4));
        due(7, x.cost(0, 1, 0));
        write(x, 0, 0);
        due(7 + 3 * 9, x.cost(0, 2, 4));
        write(x, 0);
        due(57, x.cost(0, 2, 4));
        write(x, 0, -1, 0, 5);
        due(50 + 3 * 9, x.cost(0, 2, 4));
        write(x, 0, 5, Long.MIN_VALUE, Long.MAX_VALUE, 0);
        due(57, x.cost(0, 2, 4));
        write(x, 0, 0, 3);
        due(7 + 9, x.cost(0, 2, 4));
        write(x, 0, -1, -1, 4);
        due(STATE, x.cost(0, 2, 4));
        due(57, x.cost(0, 2, 3));
        write(x, 0, 5, Long.MIN_VALUE, Long.MAX_VALUE, 0);
        // What is under way counts where it comes outside, by the last tick.
        x.send(0, 4);
        due(46 + 7 + 4, x.cost(0, 2, 4));
        due(46 + 7, x.cost(0, 2, 1));
        write(x, 0, -1, 2);
        due(46 + 7 + 9, x.cost(0, 2, 4));
        write(x, 0, -1, 3);
        due(46 + 7 + 4, x.cost(0, 2, 4));
        write(x, 0, 0);
        due(7 + 4 + 5 + 2 * 9, x.cost(0, 2, 4));
    }

    private static void promise18() {
        GoodsUnderWay x = chain(50, 9, 2);
        x.line(0, 0, 2, 3, 4);
        x.line(0, 0, 2, 8, 4);
        due(0, x.lose(2, 24));
        due(0, x.lose(2, 4));
        due(0, x.lose(2, 0));
        due(0, x.lose(1, 2));
        x.change(0, 3, 1);
        due(3, x.lose(2, 4));
        due(0, x.lose(1, 4));
        dues(BEYOND, x.lose(-1, 4), x.lose(4, 4), x.lose(2, -1), x.lose(2, 25));
        x = new GoodsUnderWay();
        due(BEYOND, x.lose(0, 0));
        x.station(0, 9);
        due(BEYOND, x.lose(0, 25));
        due(NONE, x.lose(0, 24));
    }

    private static void promise18Narrow() {
        GoodsUnderWay x = new GoodsUnderWay();
        x.station(0, 99);
        x.station(0, 0);
        x.line(2, 0, 1, 3, 1);
        x.line(0, 0, 1, 1, 1);
        x.change(0, 5, 5);
        due(1, x.lose(1, 10));
        due(0, x.lose(1, 0));
    }

    private static void promise19() {
        GoodsUnderWay x = chain(50, 9, 2);
        dues(NONE, x.widen(2, 3), x.widen(2, 24), x.widen(2, 4));
        x.line(0, 0, 2, 3, 4);
        x.line(0, 0, 2, 3, 2);
        due(3, x.widen(2, 5));
        x.change(2, 4, 1);
        due(2, x.widen(2, 5));
        dues(BEYOND, x.widen(-1, 4), x.widen(4, 4), x.widen(2, -1), x.widen(2, 25));
        // LATER is more as well; half of a rail's counts only by twos; 99 may become 100.
        x = chain(500, 9, 1);
        x.change(0, 7, 0);
        due(0, x.widen(1, 1));
        x.change(0, 7, 99);
        x.change(0, 0, 3);
        due(0, x.widen(1, 1));
        x.change(0, 3, 8);
        due(NONE, x.widen(1, 1));
        x.change(0, 0, 0);
        x.change(0, 3, 99);
        due(0, x.widen(1, 2));
        due(99, x.its(0, 3));
        due(0, x.its(0, 6));
    }

    private static void promise20() {
        GoodsUnderWay x = chain(50, 9, 1);
        dues(9, x.held(0, 1, 3), x.held(0, 2, 4));
        dues(9, x.held(1, 2, 3));
        dues(0, x.held(1, 1, 3), x.held(0, 2, 1));
        due(3, x.held(0, 2, 24));
        due(3, x.held(1, 2, 24));
        dues(BEYOND, x.held(-1, 1, 3), x.held(2, 1, 3), x.held(0, -1, 3), x.held(0, 3, 3), x.held(0, 1, -1), x.held(0, 1, 25));
        // Room is held; what was sent already is taken from it.
        x = chain(9, 9, 1);
        x.send(0, 2);
        due(9, x.held(0, 1, 1));
        due(5, x.held(0, 1, 2));
        due(9, x.its(0, 8));
    }

    private static void promise21() {
        GoodsUnderWay x = chain(50, 9, 2);
        due(2, x.begin(2, 0));
        due(1, x.begin(2, 2));
        due(1, x.begin(2, 4));
        due(0, x.begin(2, 24));
        due(0, x.begin(0, 0));
        x.change(1, 3, 0);
        due(2, x.begin(2, 24));
        dues(BEYOND, x.begin(-1, 4), x.begin(3, 4), x.begin(2, -1), x.begin(2, 25));
    }

    private static void promise22() {
        GoodsUnderWay x = chain(500, 9, 8);
        due(0, x.kind(0, 1, 0));
        due(3, x.kind(0, 1, 3));
        due(1, x.kind(0, 1, 4));
        due(3, x.kind(0, 1, 5));
        due(4, x.kind(0, 1, 24));
        due(0, x.its(0, 0));
        x.change(0, 4, 1);
        due(0, x.kind(0, 1, 1));
        due(4, x.kind(0, 1, 4));
        due(0, x.kind(1, 1, 24));
        dues(BEYOND, x.kind(-1, 1, 3), x.kind(2, 1, 3), x.kind(0, -1, 3), x.kind(0, 3, 3), x.kind(0, 1, -1), x.kind(0, 1, 25));
    }

    private static void promise23() {
        GoodsUnderWay x = new GoodsUnderWay();
        dues(BEYOND, x.goal(-1), x.goal(25));
        due(NONE, x.goal(0));
        x = chain(50, 9, 2);
        due(0, x.goal(0));
        due(0, x.goal(24));
        x.set(1, 1, 45);
        due(0, x.goal(1));
        due(1, x.goal(2));
        x.set(2, 1, 1);
        due(1, x.goal(24));
        x.set(1, 0, 0);
        due(2, x.goal(24));
    }

    private static void promise24() {
        GoodsUnderWay x = chain(0, 9, 2);
        x.set(1, 0, 1);
        x.set(1, 2, 0);
        x.line(0, 0, 2, 3, 9);
        long[] due = {0, 0, 0, 0, 9, 18, 27, 36, 45, 57, 69};
        for (int n = 0; n < due.length; n++) {
            Check.due(at + ": steady(0, 2, " + n + ")", due[n], x.steady(0, 2, n));
        }
        due(0, x.steady(2, 0, 99));
        due(9 * (178956970L - 3) + 3 * (178956970L - 8), x.steady(0, 2, 178956970));
        due(OVER, x.steady(0, 2, 178956980));
        due(OVER, x.steady(0, 2, HIGH));
        dues(BEYOND, x.steady(-1, 2, 1), x.steady(3, 2, 1), x.steady(0, -1, 1), x.steady(0, 3, 1), x.steady(1, 1, 1), x.steady(0, 1, -1));
        x.change(0, 3, 0);
        x.change(2, 3, 1);
        due(HIGH - 8, x.steady(0, 2, HIGH));
        x.line(0, 0, 1, 1, 1);
        x.line(0, 0, 1, 1, 2);
        due(HIGH, x.steady(0, 1, 1073741824));
        due(OVER, x.steady(0, 1, 1073741825));
        // Room is as in this tick, whatever was sent; nothing that is there counts.
        x = chain(50, 9, 2);
        x.set(1, 1, 30);
        x.send(0, 9);
        x.change(0, 0, 1);
        x.change(0, 7, 5);
        due(9 * 4L, x.steady(0, 1, 4));
        x.go(1);
        due(0, x.steady(0, 1, 99));
        // A way against one that was taken: the cross road is given up for two that go by.
        x = new GoodsUnderWay();
        for (int i = 0; i < 4; i++) {
            x.station(0, 0);
        }
        x.line(0, 0, 1, 1, 1);
        x.line(0, 1, 2, 1, 1);
        x.line(0, 2, 3, 1, 1);
        x.line(0, 0, 2, 1, 5);
        x.line(0, 1, 3, 1, 5);
        due(1, x.steady(0, 3, 3));
        due(8, x.steady(0, 3, 9));
        due(10, x.steady(0, 3, 10));
    }

    private static void promise25() {
        GoodsUnderWay x = chain(0, 9, 2);
        x.line(0, 0, 2, 3, 9);
        due(12, x.rate(0, 2));
        due(9, x.rate(0, 1));
        due(0, x.rate(2, 0));
        x.change(1, 3, 4);
        due(7, x.rate(0, 2));
        dues(BEYOND, x.rate(-1, 0), x.rate(3, 0), x.rate(0, -1), x.rate(0, 3), x.rate(0, 0));
    }

    private static void promise26() {
        GoodsUnderWay x = chain(0, 9, 2);
        x.line(0, 0, 2, 3, 9);
        for (int d = 0; d <= 120; d++) {
            Check.due(at + ": gain(0, 2, " + d + ")", d == 4 ? 9 : d == 9 ? 3 : 0, x.gain(0, 2, d));
        }
        dues(BEYOND, x.gain(-1, 0, 1), x.gain(3, 0, 1), x.gain(0, -1, 1), x.gain(0, 3, 1), x.gain(0, 0, 1),
                x.gain(0, 1, -1), x.gain(0, 1, 121));
        // The longest way that there is: five barges by the highest tide.
        x = new GoodsUnderWay();
        for (int i = 0; i < 6; i++) {
            x.station(0, 0);
        }
        for (int i = 0; i < 5; i++) {
            x.line(4, i, i + 1, 2, 9);
            x.change(i, 5, 5);
        }
        x.go(5);
        due(6, x.gain(0, 5, 75));
        due(0, x.gain(0, 5, 74));
        due(6, x.rate(0, 5));
    }

    private static void promise27() {
        GoodsUnderWay x = chain(0, 9, 2);
        x.line(0, 0, 2, 3, 9);
        due(0, x.reach(0, 2, 0));
        due(4, x.reach(0, 2, 9));
        due(5, x.reach(0, 2, 10));
        due(8, x.reach(0, 2, 45));
        due(9, x.reach(0, 2, 46));
        due(10, x.reach(0, 2, 58));
        due(0, x.reach(2, 0, 0));
        dues(NONE, x.reach(2, 0, 1), x.reach(2, 0, HIGH));
        dues(BEYOND, x.reach(-1, 0, 1), x.reach(3, 0, 1), x.reach(0, -1, 1), x.reach(0, 3, 1), x.reach(0, 0, 1), x.reach(2, 0, -1));
        x.change(0, 3, 0);
        x.change(2, 3, 1);
        due(OVER, x.reach(0, 2, HIGH));
        due(HIGH, x.reach(0, 2, HIGH - 8));
        due(OVER, x.reach(0, 2, HIGH - 7));
    }

    private static void promise28() {
        GoodsUnderWay x = new GoodsUnderWay();
        dues(BEYOND, x.feed(0, 0), x.feed(0, -1), x.feed(0, 5), x.feed(0, HIGH));
        due(4, x.feed(0x79617264, 4));
        due(1, x.text());
        due(2, x.feed(0x12347961, 2));
        due(3, x.feed(0x72, 1));
        due(4, x.feed(-156, 1));
        due(1, x.text());
        due(2, x.count(1));
        for (int i = 1; i <= 29; i++) {
            due(4 * i, x.feed(0x20202020, 4));
        }
        due(119, x.feed(0x202020, 3));
        dues(FULL, x.feed(0, 2), x.feed(0, 4));
        due(BEYOND, x.feed(0, 5));
        due(119, x.count(5));
        due(120, x.feed(0, 1));
        due(FULL, x.feed(0, 1));
        due(-120, x.text());
    }

    private static void promise29() {
        GoodsUnderWay x = new GoodsUnderWay();
        due(0, x.wipe());
        x.feed(7, 3);
        due(3, x.wipe());
        due(0, x.count(5));
        due(0, x.wipe());
        due(1, x.feed(7, 1));
    }

    private static void fault(String before, String text, int place) {
        GoodsUnderWay x = new GoodsUnderWay();
        if (!before.isEmpty()) {
            Check.read(x, before);
        }
        int stations = x.count(1);
        int lines = x.count(2);
        Check.due(at + ": " + text, -1 - place, Check.read(x, text));
        Check.due(at + ": stations of " + text, stations, x.count(1));
        Check.due(at + ": lines of " + text, lines, x.count(2));
        Check.due(at + ": tape of " + text, 0, x.count(5));
        Check.due(at + ": findings of " + text, 0, x.status(-1));
    }

    private static void promise30() {
        GoodsUnderWay x = new GoodsUnderWay();
        due(4, Check.read(x, "yard;shed stock 999;quay store 99 ;  vault stock 0 store 0  "));
        station(x, 0, 0, 0, 20);
        station(x, 1, 1, 999, 20);
        station(x, 2, 2, 0, 99);
        station(x, 3, 3, 0, 0);
        due(6, Check.read(x, "road 0 1;rail 1 0wide 99;ferry 2 3 long 9;express 3 2tide5;barge 0 3later 99 999;pass 1 3"));
        line(x, 0, 0, 0, 1, 10, 1, 0, 0, 99999);
        line(x, 1, 1, 1, 0, 99, 1, 0, 0, 99999);
        line(x, 2, 2, 2, 3, 10, 9, 0, 0, 99999);
        line(x, 3, 3, 3, 2, 10, 1, 5, 0, 99999);
        line(x, 4, 4, 0, 3, 10, 1, 0, 99, 999);
        line(x, 5, 5, 1, 3, 10, 1, 0, 0, 99999);
        due(3, Check.read(x, " yard stock 0007 store 3;road 4 0 wide 0 long 2 tide 1 later 0 0;yard"));
        station(x, 4, 0, 7, 3);
        line(x, 6, 0, 4, 0, 0, 2, 1, 0, 0);
        due(6, x.count(1));
        due(0, x.status(-1));
        due(0, x.count(5));
        due(1, Check.read(x, "road 0 5 wide 9 long 9 tide 0"));
        line(x, 7, 0, 0, 5, 9, 9, 0, 0, 99999);
    }

    private static void promise30Faults() {
        fault("", "", 0);
        fault("", "   ", 3);
        fault("", "yard;", 5);
        fault("", "yard; ", 6);
        fault("", ";yard", 0);
        fault("", "yard;;yard", 5);
        fault("", "yards", 0);
        fault("", "yar", 0);
        fault("", "Yard", 0);
        fault("", "yard\tstock 1", 4);
        fault("", "yardX", 4);
        fault("", "yardz", 0);
        fault("", "yarda", 0);
        fault("", "yard`", 4);
        fault("", "yard{", 4);
        fault("", "yard stock/", 10);
        fault("", "yard stock:", 10);
        fault("", "yardstock 1", 0);
        fault("", "yard stock", 10);
        fault("", "yard stock ;", 11);
        fault("", "yard stock 1000", 11);
        fault("", "yard stock 99999999999999999999", 11);
        fault("", "yard stock 1 stock 1", 13);
        fault("", "yard store 100", 11);
        fault("", "yard store 5 stock 5", 13);
        fault("", "yard 5", 5);
        fault("", "yard yard", 5);
        fault("", "17", 0);
        fault("", "road 0 1", 5);
        fault("yard", "road 0 1", 7);
        fault("yard", "road 0 0", 7);
        fault("yard", "road 1 0", 5);
        fault("yard", "yard;road 0 1;road 1 2", 21);
        fault("yard;yard", "road 0", 6);
        fault("yard;yard", "road 0;", 6);
        fault("yard;yard", "road 01", 7);
        fault("yard;yard", "road 0 1 wide 100", 14);
        fault("yard;yard", "road 0 1 long 0", 14);
        fault("yard;yard", "road 0 1 long 10", 14);
        fault("yard;yard", "road 0 1 tide 6", 14);
        fault("yard;yard", "road 0 1 later 100 1", 15);
        fault("yard;yard", "road 0 1 later 1", 16);
        fault("yard;yard", "road 0 1 later 1 1000", 17);
        fault("yard;yard", "road 0 1 long 1 wide 1", 16);
        fault("yard;yard", "road 0 1 tide 1 long 1", 16);
        fault("yard;yard", "road 0 1 later 1 1 tide 1", 19);
        fault("yard;yard", "road 0 1 stock 1", 9);
        fault("yard;yard", "road 0 1 2", 9);
        fault("yard;yard;yard", "yard;yard;yard;yard", 15);
        String five = "road 0 1;road 0 1;road 0 1;road 0 1;road 0 1";
        fault("yard;yard", five + ";" + five + "; pass 0 1", 91);
    }

    private static void promise31() {
        GoodsUnderWay x = new GoodsUnderWay();
        dues(BEYOND, x.sheet(-1, 16, 1), x.sheet(4, 16, 1), x.sheet(0, 8, 1), x.sheet(0, -16, 1), x.sheet(0, 17, -1));
        dues(SIZE, x.sheet(0, 16, -1), x.sheet(3, 64, LOW));
        dues(BEYOND, x.sheet(0, 16, 41), x.sheet(0, 32, HIGH));
        due(MISSING, x.lays(0));
        due(40, x.sheet(0, 16, 40));
        due(0, x.write(0, 39, 5));
        due(SIZE, x.sheet(0, 32, -1));
        due(5, x.write(0, 39, 6));
        due(40, x.sheet(0, 32, 40));
        due(0, x.write(0, 39, 5));
        due(0, x.sheet(1, 64, 0));
        due(0, x.lays(1));
        due(0, x.sheet(0, 0, HIGH));
        due(0, x.sheet(1, 0, -1));
        dues(MISSING, x.write(0, 39, 5), x.lays(1));
        due(40, x.sheet(0, 32, 40));
        due(0, x.write(0, 39, 5));
    }

    private static void promise32() {
        GoodsUnderWay x = new GoodsUnderWay();
        dues(BEYOND, x.write(-1, 0, 1), x.write(4, 0, 1));
        due(MISSING, x.write(0, -1, 1));
        x.sheet(0, 16, 2);
        x.sheet(1, 32, 2);
        x.sheet(2, 64, 2);
        x.sheet(3, 64, 0);
        dues(BEYOND, x.write(0, -1, 1), x.write(0, 2, 1), x.write(3, 0, 1), x.write(0, HIGH, 1), x.write(0, LOW, 1));
        for (int i = 0; i < 3; i++) {
            due(0, x.write(i, 1, ~0x1234567898765432L));
        }
        long v = ~0x1234567898765432L;
        due((short) v, x.write(0, 1, 32768));
        due((int) v, x.write(1, 1, 1L << 31));
        due(v, x.write(2, 1, Long.MIN_VALUE));
        due(-32768, x.write(0, 1, -1));
        due(-2147483648L, x.write(1, 1, -1));
        due(Long.MIN_VALUE, x.write(2, 1, -1000000001));
        dues(0, x.write(0, 0, 0), x.write(1, 0, 0), x.write(2, 0, 0));
        // What was written may look like a finding, and is none.
        int before = x.status(-1);
        due(-1000000001, x.write(2, 1, 0));
        due(before, x.status(-1));
    }

    private static void row(GoodsUnderWay x, int sheet, long... due) {
        for (int i = 0; i < due.length; i++) {
            long was = x.write(sheet, i, 0);
            Check.due(at + ": sheet " + sheet + ", " + i, due[i], was);
            x.write(sheet, i, was);
        }
    }

    private static void promise33() {
        GoodsUnderWay x = new GoodsUnderWay();
        write(x, 0, 1, 2, 3, 4, 5);
        write(x, 1, 0, 0, 0);
        x.sheet(2, 32, 5);
        dues(BEYOND, x.copy(-1, 0, 3, 0, 1), x.copy(4, 0, 3, 0, 1), x.copy(3, 0, -1, 0, 1), x.copy(3, 0, 4, 0, 1));
        dues(MISSING, x.copy(3, -1, 0, 0, 1), x.copy(0, -1, 3, 0, 1), x.copy(3, 0, 3, 0, 0));
        dues(KIND, x.copy(0, -1, 2, 0, 1), x.copy(2, 0, 0, 0, 99));
        dues(BEYOND, x.copy(0, -1, 1, 0, 1), x.copy(0, 0, 1, -1, 1), x.copy(0, 0, 1, 0, -1), x.copy(0, 0, 1, 0, 4),
                x.copy(0, 4, 1, 0, 2), x.copy(0, 0, 1, 2, 2), x.copy(0, HIGH, 1, 0, HIGH), x.copy(0, 0, 1, HIGH, 1));
        row(x, 1, 0, 0, 0);
        due(2, x.copy(0, 3, 1, 1, 2));
        row(x, 1, 0, 4, 5);
        due(0, x.copy(0, 5, 1, 3, 0));
        due(4, x.copy(0, 0, 0, 1, 4));
        row(x, 0, 1, 1, 2, 3, 4);
        due(4, x.copy(0, 1, 0, 0, 4));
        row(x, 0, 1, 2, 3, 4, 4);
    }

    private static void promise34() {
        GoodsUnderWay x = chain(50, 9, 2);
        dues(BEYOND, x.lays(-1), x.lays(4));
        due(MISSING, x.lays(0));
        write(x, 0, 7, 1000, 999, 5);
        due(2, x.lays(0));
        due(7, x.of(0, 1));
        due(0, x.of(1, 1));
        due(999, x.of(2, 1));
        write(x, 0, -1, 0);
        due(1, x.lays(0));
        due(7, x.of(0, 1));
        write(x, 0, 1L << 32, 3);
        due(1, x.lays(0));
        due(7, x.of(0, 1));
        due(3, x.of(1, 1));
    }

    private static void promise35() {
        GoodsUnderWay x = chain(50, 9, 2);
        dues(BEYOND, x.book(-1, 2), x.book(4, 9));
        due(MISSING, x.book(0, 9));
        x.sheet(0, 32, 6);
        dues(BEYOND, x.book(0, -1), x.book(0, 3));
        due(6, x.book(0, 2));
        row(x, 0, 0, 0, 0, 0, 9, 18);
        x.sheet(0, 64, 40);
        x.write(0, 25, -7);
        due(25, x.book(0, 2));
        due(45, x.write(0, 8, 0));
        due(50, x.write(0, 24, 0));
        due(-7, x.write(0, 25, 0));
        x.sheet(1, 16, 0);
        due(0, x.book(1, 2));
    }

    /** More than 16 bits can tell: 24 ticks of sending everything on, over and over. */
    private static void promise35Bits() {
        GoodsUnderWay x = new GoodsUnderWay();
        for (int i = 0; i < 6; i++) {
            x.station(0, 0);
        }
        for (int i = 0; i < 5; i++) {
            x.line(4, i, 5, 99, 1);
        }
        x.sheet(0, 16, 6);
        x.sheet(1, 16, 40);
        for (int i = 0; i < 5; i++) {
            x.write(0, i, 999);
        }
        x.write(0, 5, -1);
        for (int i = 0; i < 12; i++) {
            x.write(1, 3 * i, i % 5);
            x.write(1, 3 * i + 1, i / 5);
            x.write(1, 3 * i + 2, 297);
        }
        int sent = 0;
        for (int i = 0; i < 10; i++) {
            x.lays(0);
            sent += 12 * 297;
            due(sent, x.run(1, 5, 5));
        }
        Check.holds(at + ": more than 16 bits", sent > 32767);
        x.sheet(2, 16, 1);
        due(1, x.book(2, 5));
        due((short) sent, x.write(2, 0, 0));
        due(sent, x.most(5, 0));
    }

    private static void promise36() {
        GoodsUnderWay x = chain(50, 9, 2);
        dues(BEYOND, x.replay(-1, 0, 0), x.replay(4, 9, 9));
        due(MISSING, x.replay(0, -1, 99));
        write(x, 0, 0, 0, 9, 1, 2, 5, 0, 1, 3, 1, 9, 9, 7, 7);
        dues(BEYOND, x.replay(0, -1, 1), x.replay(0, 3, 1), x.replay(0, 0, -1), x.replay(0, 0, 25));
        due(50, x.replay(0, 0, 0));
        due(41, x.replay(0, 0, 1));
        due(38, x.replay(0, 0, 2));
        due(9, x.replay(0, 1, 2));
        due(7, x.replay(0, 1, 4));
        due(5, x.replay(0, 2, 4));
        due(7, x.replay(0, 1, 9));
        due(-4, x.replay(0, 1, 10));
        dues(0, x.now(0), x.now(2), x.now(3));
        due(50, x.of(0, 1));
    }

    private static void promise36Fails() {
        GoodsUnderWay x = chain(50, 9, 1);
        long[][] plans = {{2, 0, 1}, {2, 0, 0}, {-1, 0, 0}, {-1, 0, 1}, {0, 0, -1}, {0, 0, 51}, {0, 0, 10}, {1, 0, 1}, {1L << 32, 0, 1},
            {0, 0, 1L << 32}, {0, 0, Long.MAX_VALUE}, {0, 0, Long.MIN_VALUE}};
        int before = x.status(-1);
        for (long[] plan : plans) {
            write(x, 0, plan);
            due(-1, x.replay(0, 0, 1));
            due(-1, x.run(0, 0, 1));
            due(50, x.replay(0, 0, 0));
        }
        due(before, x.status(-1));
        // Ticks ahead that never come don't matter, nor does half a three.
        write(x, 0, 9, -1, 9, 9, 24, 9, 9, 1L << 32, 9, 9, 0);
        due(50, x.replay(0, 0, 24));
        // By the tick first, then by their order.
        write(x, 0, 0, 1, 99, 0, 0, 5, 0, 0, 5);
        due(-3, x.replay(0, 0, 9));
        write(x, 0, 0, 1, 99, 0, 0, 5, 0, 0, 4);
        due(-1, x.replay(0, 0, 9));
        due(41, x.replay(0, 0, 1));
        // What was sent before counts in this tick.
        x.send(0, 8);
        write(x, 0, 0, 0, 2);
        due(-1, x.replay(0, 0, 1));
        write(x, 0, 0, 0, 1, 0, 1, 9);
        due(32, x.replay(0, 0, 2));
    }

    private static void promise37() {
        GoodsUnderWay x = chain(50, 9, 2);
        dues(BEYOND, x.run(-1, 0, 0), x.run(4, 9, 9));
        due(MISSING, x.run(0, -1, 99));
        write(x, 0, 0, 0, 9, 1, 2, 5, 0, 1, 3, 1, 9, 9);
        dues(BEYOND, x.run(0, -1, 1), x.run(0, 3, 1), x.run(0, 0, -1), x.run(0, 0, 25));
        due(-4, x.run(0, 1, 10));
        dues(0, x.now(0), x.now(2), x.now(3), x.now(4));
        due(50, x.of(0, 1));
        due(50, x.run(0, 0, 0));
        due(0, x.now(0));
        x.image();
        due(0, x.run(0, 2, 1));
        due(1, x.now(0));
        due(41, x.of(0, 1));
        x.undo();
        due(9, x.run(0, 1, 2));
        due(2, x.now(0));
        due(38, x.of(0, 1));
        due(3, x.now(2));
        write(x, 0, 0, 0, 9, 0, 1, 9);
        x.set(1, 2, 4);
        due(13, x.run(0, 1, 3));
        due(5, x.now(0));
        due(5 + 3 + 9, x.count(3));
    }

    private static void promise38to40() {
        GoodsUnderWay x = chain(50, 9, 2);
        due(NONE, x.undo());
        due(0, x.tear());
        x.change(1, 5, 2);
        x.send(0, 9);
        x.go(1);
        x.send(0, 4);
        due(1, x.image());
        x.feed(0x20202020, 3);
        write(x, 0, 8);
        x.set(0, 1, 999);
        x.set(1, 2, 1);
        x.set(2, 0, 3);
        for (int i = 0; i < 8; i++) {
            x.change(1, i, i == 1 ? 0 : 1);
        }
        x.station(0, 1);
        x.line(0, 0, 3, 1, 1);
        x.go(7);
        Check.holds(at + ": some is lost", x.now(3) > 0);
        due(1, x.undo());
        station(x, 0, 0, 37, 20);
        station(x, 1, 1, 0, 20, 20, 13);
        station(x, 2, 2, 0, 20);
        line(x, 0, 0, 0, 1, 9, 2, 0, 0, 99999, 9, 2, 4, 13);
        line(x, 1, 0, 1, 2, 9, 2, 2, 0, 99999);
        dues(3, x.count(1));
        dues(2, x.count(2));
        due(0, x.count(3));
        due(3, x.count(5));
        due(8, x.write(0, 0, 0));
        x.go(1);
        due(9, x.of(1, 1));
        due(1, x.undo());
        due(0, x.of(1, 1));
        x.go(3);
        due(1, x.image());
        x.go(2);
        due(4, x.undo());
        due(1, x.tear());
        due(0, x.tear());
        due(NONE, x.undo());
        due(4, x.now(0));
    }

    private static void promise41() {
        GoodsUnderWay x = chain(50, 9, 2);
        x.set(1, 1, 22);
        x.send(0, 9);
        x.go(1);
        x.feed(0, 2);
        int[] due = {1, 3, 2, 2, 70, 2};
        for (int i = 0; i < 6; i++) {
            Check.due(at + ": count(" + i + ")", due[i], x.count(i));
        }
        dues(BEYOND, x.count(-1), x.count(6), x.count(LOW), x.count(HIGH));
    }

    private static void promise42() {
        GoodsUnderWay x = chain(50, 9, 2);
        x.image();
        x.of(9, 9);
        x.of(9, 9);
        for (int i = 0; i < 3; i++) {
            x.station(0, 0);
        }
        for (int i = 0; i < 3; i++) {
            x.station(0, 0);
        }
        for (int i = 0; i < 4; i++) {
            x.as(0, 1);
        }
        for (int i = 0; i < 5; i++) {
            x.reach(2, 0, 1);
        }
        for (int i = 0; i < 6; i++) {
            x.send(0, 10);
        }
        for (int i = 0; i < 7; i++) {
            x.lays(0);
        }
        for (int i = 0; i < 8; i++) {
            x.sheet(0, 16, -1);
        }
        for (int i = 0; i < 9; i++) {
            x.steady(0, 2, HIGH);
        }
        int[] due = {2, 3, 4, 5, 6, 7, 8, 9};
        for (int i = 0; i < 8; i++) {
            Check.due(at + ": status(" + i + ")", due[i], x.status(i));
        }
        due(44, x.status(-1));
        x.undo();
        due(44, x.status(-1));
        due(BEYOND, x.status(8));
        due(3, x.status(0));
        due(BEYOND, x.status(-2));
        due(4, x.status(0));
        due(46, x.status(-1));
    }

    public static void main(String[] args) {
        at = "promise 1";
        promise1();
        at = "promise 2";
        promise2();
        at = "promise 3";
        promise3();
        promise3AfterUndo();
        at = "promise 4";
        promise4();
        at = "promise 5";
        promise5();
        at = "promise 6";
        promise6();
        at = "promise 7";
        promise7();
        at = "promise 8";
        promise8();
        at = "promise 9";
        promise9();
        at = "promise 10";
        promise10();
        at = "promise 11";
        promise11();
        at = "promise 12";
        promise12();
        promise12Edges();
        at = "promise 13";
        promise13();
        promise13Holds();
        at = "promise 14";
        promise14();
        at = "promise 15";
        promise15();
        at = "promise 16";
        promise16();
        at = "promise 17";
        promise17();
        at = "promise 18";
        promise18();
        promise18Narrow();
        at = "promise 19";
        promise19();
        at = "promise 20";
        promise20();
        at = "promise 21";
        promise21();
        mainOf22to42();
        Check.end();
    }

    private static void mainOf22to42() {
        at = "promise 22";
        promise22();
        at = "promise 23";
        promise23();
        at = "promise 24";
        promise24();
        at = "promise 25";
        promise25();
        at = "promise 26";
        promise26();
        at = "promise 27";
        promise27();
        at = "promise 28";
        promise28();
        at = "promise 29";
        promise29();
        at = "promise 30";
        promise30();
        promise30Faults();
        at = "promise 31";
        promise31();
        at = "promise 32";
        promise32();
        at = "promise 33";
        promise33();
        at = "promise 34";
        promise34();
        at = "promise 35";
        promise35();
        promise35Bits();
        at = "promise 36";
        promise36();
        promise36Fails();
        at = "promise 37";
        promise37();
        at = "promises 38 to 40";
        promise38to40();
        at = "promise 41";
        promise41();
        at = "promise 42";
        promise42();
    }
}
