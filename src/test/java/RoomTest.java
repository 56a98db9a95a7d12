import java.lang.management.ManagementFactory;

/** All calls of a run live in one room: an object is small, and no call makes anything. */
public final class RoomTest {
    private static final int OBJECTS = 200;

    private RoomTest() { }

    private static long made() {
        com.sun.management.ThreadMXBean bean = (com.sun.management.ThreadMXBean) ManagementFactory.getThreadMXBean();
        return bean.getThreadAllocatedBytes(Thread.currentThread().getId());
    }

    private static void build(GoodsUnderWay x) {
        for (int i = 0; i < 6; i++) {
            x.station(i % 4, 900);
        }
        for (int i = 0; i < 10; i++) {
            x.line(i % 6, i % 6, (i + 1 + i / 6) % 6, 20 + i, 1 + i % 3);
        }
        for (int i = 0; i < 4; i++) {
            x.sheet(i, 64, 40);
        }
    }

    private static long askAll(GoodsUnderWay x, int i) {
        int g = i % 6;
        int n = i % 25;
        long sum = x.most(g, n) + x.quick(g, 900 + i) + x.all(g) + x.near(i % 5, g, n) + x.cost(0, g, n);
        sum += x.lose(g, n) + x.widen(g, n) + x.held(i % 10, g, n) + x.begin(g, n) + x.kind(i % 10, g, n) + x.goal(n);
        sum += x.steady(g, (g + 1) % 6, i) + x.rate(g, (g + 2) % 6) + x.gain(g, (g + 1) % 6, n) + x.reach(g, (g + 3) % 6, 99);
        sum += x.feed(0x79617264, 4) + x.text() + x.feed(0x3b, 1) + x.wipe() + x.write(i % 4, n, i) + x.copy(0, 1, 1, 0, 9);
        sum += x.lays(i % 4) + x.book(i % 4, g) + x.replay(2, g, n) + x.run(2, g, n) + x.image() + x.undo() + x.tear();
        sum += x.send(i % 10, 1) + x.go(1) + x.now(i % 8) + x.of(g, i % 5) + x.its(i % 10, i % 12) + x.status(-1) + x.count(4);
        sum += x.set(g, 2, i % 99) + x.change(i % 10, 3, i % 99) + x.as(i % 10, i % 6) + x.stands(g, i % 4);
        return sum + x.sheet(3, 32, n) + x.station(0, 0) + x.line(0, 0, 1, 1, 1);
    }

    public static void main(String[] args) {
        GoodsUnderWay[] objects = new GoodsUnderWay[OBJECTS];
        objects[0] = new GoodsUnderWay();
        long before = made();
        for (int i = 1; i < OBJECTS; i++) {
            objects[i] = new GoodsUnderWay();
        }
        long each = (made() - before) / (OBJECTS - 1);
        System.out.println(each + " bytes an object");
        Check.holds("an object is small", each < 40000);
        for (GoodsUnderWay x : objects) {
            build(x);
        }
        long sum = 0;
        before = made();
        for (int i = 0; i < OBJECTS; i++) {
            sum += askAll(objects[i], i) + askAll(objects[i], i + 7);
        }
        long calls = made() - before;
        System.out.println(calls + " bytes by " + 2 * OBJECTS + " times all calls (" + sum + ")");
        Check.holds("calls make nothing", calls < 20000);
        Check.end();
    }
}
