import java.lang.reflect.InvocationTargetException;

/**
 * The edges of promises 11 and 37 at tick 99999. More than 512 calls lead there, and what those answer is free;
 * but there is no other way to what the document says of it, and the program keeps to that, too.
 */
public final class EdgesLastTickTest {
    private static final int BEYOND = Check.BEYOND;
    private static final int STATE = Check.STATE;

    private EdgesLastTickTest() { }

    /** Yard 0 with 50, a road to yard 1; the tick is told. */
    private static GoodsUnderWay at(int tick) {
        GoodsUnderWay x = Edges.pair(50, 0, 9, 1);
        for (int i = 0; i < tick / 60; i++) {
            x.go(60);
        }
        if (tick % 60 > 0) {
            x.go(tick % 60);
        }
        Edges.write(x, 0, 16, 0, 0, 9);
        return x;
    }

    static void promise11ATickAbove99999IsState() {
        Edges.refusedBy(() -> at(99990), STATE, x -> x.go(10), x -> x.go(60));
        Edges.refusedBy(() -> at(99999), STATE, x -> x.go(1), x -> x.go(60));
    }

    static void promise11Tick99999Comes() {
        GoodsUnderWay x = at(99990);
        Edges.due(0, x.go(9));
        Edges.due(99999, x.now(0));
        x = at(99939);
        Edges.due(0, x.go(60));
        Edges.due(99999, x.now(0));
    }

    static void promise11BeyondIsAskedAheadOfState() {
        Edges.refusedBy(() -> at(99990), BEYOND, x -> x.go(61), x -> x.go(0));
    }

    static void promise37ATickAbove99999IsState() {
        Edges.refusedBy(() -> at(99990), STATE, x -> x.run(0, 0, 10), x -> x.run(0, 0, 24));
        Edges.refusedBy(() -> at(99999), STATE, x -> x.run(0, 0, 1));
    }

    static void promise37StateIsAskedAheadOfAPlanThatFails() {
        GoodsUnderWay x = at(99990);
        x.write(0, 2, 99);
        Edges.due(STATE, x.run(0, 0, 10));
        Edges.due(-1, x.run(0, 0, 9));
    }

    static void promise37BeyondIsAskedAheadOfState() {
        Edges.refusedBy(() -> at(99990), BEYOND, x -> x.run(0, 0, 25), x -> x.run(0, 2, 10), x -> x.run(4, 0, 10));
        Edges.refusedBy(() -> at(99990), Check.MISSING, x -> x.run(1, 0, 10));
    }

    static void promise37Tick99999Comes() {
        GoodsUnderWay x = at(99990);
        Edges.due(41, x.run(0, 0, 9));
        Edges.due(99999, x.now(0));
        Edges.due(41, x.run(0, 0, 0));
    }

    public static void main(String[] args) throws IllegalAccessException, InvocationTargetException {
        Edges.run(EdgesLastTickTest.class, 37, 37);
    }
}
