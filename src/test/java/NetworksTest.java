import java.util.Random;

/** Dense networks with goods everywhere, where ways cross and get in each other's way, against the model. */
public final class NetworksTest {
    private static final int NETWORKS = 800;

    private final Random random;
    private final GoodsUnderWay program = new GoodsUnderWay();
    private final Model model = new Model();
    private final int stations;

    private NetworksTest(long seed) {
        random = new Random(seed);
        stations = 4 + random.nextInt(3);
    }

    private void station(int i) {
        int kind = random.nextInt(4);
        int stock = random.nextInt(40);
        int store = random.nextInt(30);
        Check.due("station", model.station(kind, stock), program.station(kind, stock));
        Check.due("set", model.set(i, 2, store), program.set(i, 2, store));
    }

    private void line(int i) {
        int kind = random.nextInt(6);
        int from = random.nextInt(stations);
        int to = (from + 1 + random.nextInt(stations - 1)) % stations;
        int wide = 1 + random.nextInt(6);
        int length = 1 + random.nextInt(5);
        Check.due("line", model.line(kind, from, to, wide, length), program.line(kind, from, to, wide, length));
        int[] settings = {random.nextInt(3), random.nextInt(6), random.nextInt(30)};
        for (int j = 0; j < 3; j++) {
            Check.due("change", model.change(i, 5 + j, settings[j]), program.change(i, 5 + j, settings[j]));
        }
    }

    private void sendSome() {
        for (int i = 0; i < 12; i++) {
            int line = random.nextInt(10);
            int goods = random.nextInt(5);
            Check.due("send", model.send(line, goods), program.send(line, goods));
            if (random.nextInt(4) == 0) {
                Check.due("go", model.go(1), program.go(1));
            }
        }
    }

    private void build() {
        for (int i = 0; i < stations; i++) {
            station(i);
        }
        for (int i = 0; i < 10; i++) {
            line(i);
        }
        sendSome();
    }

    private void compareForEver() {
        int a = random.nextInt(stations);
        int b = (a + 1 + random.nextInt(stations - 1)) % stations;
        for (int n = 0; n < 30; n++) {
            Check.due("steady behind " + n, model.steady(a, b, n), program.steady(a, b, n));
        }
        Check.due("rate", model.rate(a, b), program.rate(a, b));
        Check.due("reach", model.reach(a, b, 300), program.reach(a, b, 300));
        int d = random.nextInt(20);
        Check.due("gain", model.gain(a, b, d), program.gain(a, b, d));
    }

    private void compare() {
        int g = random.nextInt(stations);
        int n = random.nextInt(25);
        int line = random.nextInt(10);
        int station = random.nextInt(stations);
        Check.due("most", model.most(g, n), program.most(g, n));
        Check.due("near", model.near(station, g, n), program.near(station, g, n));
        Check.due("lose", model.lose(g, n), program.lose(g, n));
        Check.due("widen", model.widen(g, n), program.widen(g, n));
        Check.due("held", model.held(line, g, n), program.held(line, g, n));
        Check.due("begin", model.begin(g, n), program.begin(g, n));
        Check.due("kind", model.kind(line, g, n), program.kind(line, g, n));
        Check.due("goal", model.goal(n), program.goal(n));
        Check.due("all", model.all(g), program.all(g));
        Check.due("quick", model.quick(g, 60), program.quick(g, 60));
    }

    public static void main(String[] args) {
        for (int i = 0; i < NETWORKS; i++) {
            NetworksTest test = new NetworksTest(i);
            test.build();
            test.compare();
            test.compareForEver();
        }
        Check.end();
    }
}
