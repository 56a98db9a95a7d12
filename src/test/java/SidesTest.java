import java.util.Random;

/** MOST and NEAR by what the document says of SIDES: all sides of small networks are tried, one by one. */
public final class SidesTest {
    private static final int NETWORKS = 1500;

    private final Random random;
    private final GoodsUnderWay program = new GoodsUnderWay();
    private final Model model = new Model();
    private final int stations;
    private final int n;

    private SidesTest(long seed) {
        random = new Random(seed);
        stations = 2 + random.nextInt(3);
        int[] ticks = {8, 4, 2};
        n = random.nextInt(ticks[stations - 2] + 1);
    }

    private void build() {
        for (int i = 0; i < stations; i++) {
            int kind = random.nextInt(4);
            int stock = random.nextInt(30);
            int store = random.nextInt(12);
            program.station(kind, stock);
            model.station(kind, stock);
            program.set(i, 2, store);
            model.set(i, 2, store);
        }
        for (int i = 0; i < 5; i++) {
            int kind = random.nextInt(6);
            int from = random.nextInt(stations);
            int to = (from + 1 + random.nextInt(stations - 1)) % stations;
            int wide = random.nextInt(9);
            int length = 1 + random.nextInt(2);
            program.line(kind, from, to, wide, length);
            model.line(kind, from, to, wide, length);
        }
        for (int i = 0; i < 8; i++) {
            int line = random.nextInt(5);
            int goods = random.nextInt(4);
            program.send(line, goods);
            model.send(line, goods);
            if (random.nextInt(3) == 0) {
                program.go(1);
                model.go(1);
            }
        }
    }

    private void compare(int g) {
        int wide = n + 1;
        int pairs = stations * wide;
        int ofGoal = (1 << wide) - 1 << g * wide;
        int least = Integer.MAX_VALUE;
        int inAll = 0;
        for (int set = 0; set < 1 << pairs; set++) {
            if ((set & ofGoal) != 0) {
                continue;
            }
            boolean[][] side = new boolean[stations][wide];
            for (int i = 0; i < pairs; i++) {
                side[i / wide][i % wide] = (set >> i & 1) != 0;
            }
            int cost = Model.costOf(model.now, side, n);
            if (cost < least) {
                least = cost;
                inAll = set;
            } else if (cost == least) {
                inAll &= set;
            }
        }
        Check.due("most(" + g + ", " + n + ")", least, program.most(g, n));
        for (int i = 0; i < stations; i++) {
            int near = inAll >> i * wide & (1 << wide) - 1;
            Check.due("near(" + i + ", " + g + ", " + n + ")", near, program.near(i, g, n));
        }
    }

    public static void main(String[] args) {
        for (int i = 0; i < NETWORKS; i++) {
            SidesTest test = new SidesTest(i);
            test.build();
            test.compare(test.random.nextInt(test.stations));
        }
        Check.end();
    }
}
