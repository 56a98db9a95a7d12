import java.lang.reflect.InvocationTargetException;

/** The edges of promises 24 to 27: what goes on for ever. */
public final class EdgesForEverTest {
    private static final int BEYOND = Check.BEYOND;
    private static final int NONE = Check.NONE;
    private static final int OVER = Check.OVER;
    private static final int LOW = Edges.LOW;
    private static final int HIGH = Edges.HIGH;

    private EdgesForEverTest() { }

    /** Two roads 0 to 1 with room for one each, of one tick and of two. */
    private static GoodsUnderWay two() {
        GoodsUnderWay x = Edges.pair(0, 0, 1, 1);
        x.line(0, 0, 1, 1, 2);
        return x;
    }

    // ---- 24: steady

    static void promise24NoSuchStationIsBeyond() {
        Edges.refused(BEYOND, x -> x.steady(-1, 1, 3), x -> x.steady(4, 1, 3), x -> x.steady(0, -1, 3),
                x -> x.steady(0, 4, 3), x -> x.steady(LOW, HIGH, 3), x -> x.steady(HIGH, LOW, 3));
    }

    static void promise24OneAndTheSameIsBeyond() {
        Edges.refused(BEYOND, x -> x.steady(0, 0, 3), x -> x.steady(3, 3, 0));
    }

    static void promise24NBelow0IsBeyond() {
        Edges.refused(BEYOND, x -> x.steady(0, 1, -1), x -> x.steady(0, 1, LOW));
    }

    static void promise24Behind0TicksItIs0() {
        Edges.due(0, Edges.pair(0, 0, 99, 1).steady(0, 1, 0));
        Edges.due(0, Edges.pair(999, 0, 99, 1).steady(0, 1, 0));
    }

    static void promise24GreatestAnswerIs2147483647() {
        Edges.due(HIGH, Edges.pair(0, 0, 1, 1).steady(0, 1, HIGH));
        Edges.due(HIGH, two().steady(0, 1, 1 << 30));
    }

    static void promise24AboveItIsOver() {
        Edges.refusedBy(() -> Edges.pair(0, 0, 2, 1), OVER, x -> x.steady(0, 1, 1 << 30), x -> x.steady(0, 1, HIGH));
        Edges.due(HIGH - 1, Edges.pair(0, 0, 2, 1).steady(0, 1, (1 << 30) - 1));
        Edges.refusedBy(EdgesForEverTest::two, OVER, x -> x.steady(0, 1, (1 << 30) + 1));
    }

    /** Ten barges: so far above that it would be small again, if it went round. */
    static void promise24FarAboveItIsOver() {
        GoodsUnderWay x = Edges.yards(2);
        for (int i = 0; i < 10; i++) {
            x.line(4, 0, 1, 99, 1);
        }
        Edges.dues(OVER, x.steady(0, 1, HIGH), x.steady(0, 1, 1446119), x.steady(0, 1, 1 << 28));
        Edges.due(2970L * 723058, x.steady(0, 1, 723059));
        Edges.due(OVER, x.steady(0, 1, 723060));
    }

    static void promise24BeyondIsAskedAheadOfOver() {
        Edges.refusedBy(() -> Edges.pair(0, 0, 2, 1), BEYOND, x -> x.steady(0, 0, HIGH), x -> x.steady(0, 2, HIGH));
    }

    static void promise24ChangesNothing() {
        Edges.keepsAll(x -> x.steady(0, 1, 0), x -> x.steady(0, 3, 40), x -> x.steady(3, 1, 9));
    }

    static void promise24ItBeginsWhenTheWayIsDone() {
        for (int length = 1; length < 10; length++) {
            GoodsUnderWay x = Edges.pair(0, 0, 7, length);
            Edges.due(0, x.steady(0, 1, length - 1));
            Edges.due(7, x.steady(0, 1, length));
            Edges.due(14, x.steady(0, 1, length + 1));
        }
    }

    static void promise24WithoutAWayItIs0() {
        GoodsUnderWay x = Edges.pair(50, 0, 7, 1);
        Edges.dues(0, x.steady(1, 0, 99), x.steady(1, 0, HIGH));
        Edges.due(0, Edges.pair(50, 0, 0, 1).steady(0, 1, HIGH));
    }

    static void promise24RoomIsAsInThisTick() {
        GoodsUnderWay x = Edges.pair(0, 1, 7, 1);
        x.change(0, 7, 3);
        Edges.due(70, x.steady(0, 1, 10));
        x.go(1);
        Edges.due(0, x.steady(0, 1, 10));
        x.go(1);
        Edges.due(70, x.steady(0, 1, 10));
        x.change(0, 0, 0);
        x.go(1);
        Edges.due(0, x.steady(0, 1, 10));
        x.change(0, 6, 2);
        Edges.due(20, x.steady(0, 1, 10));
    }

    static void promise24WhateverWasSent() {
        GoodsUnderWay x = Edges.pair(50, 0, 7, 1);
        x.send(0, 7);
        Edges.due(7, x.steady(0, 1, 1));
        x.change(0, 3, 3);
        Edges.due(9, x.steady(0, 1, 3));
    }

    static void promise24WhatIsThereOrOnTheWayDoesNotCount() {
        GoodsUnderWay x = Edges.pair(50, 0, 7, 1);
        x.set(1, 1, 99);
        x.send(0, 7);
        x.change(0, 3, 1);
        Edges.due(0, x.steady(0, 1, 0));
        Edges.due(1, x.steady(0, 1, 1));
        x = Edges.chain(0, 5, 1);
        x.set(1, 1, 99);
        Edges.due(5, x.steady(0, 2, 2));
    }

    /** A wide road into a shed that holds nothing, and a narrow one, two ticks longer, out of it. */
    static void promise24AnyGoodsMayStayAnywhere() {
        GoodsUnderWay x = Edges.chain(0, 9, 1);
        x.set(1, 2, 0);
        x.set(0, 0, 1);
        x.set(0, 2, 0);
        x.change(1, 3, 4);
        Edges.due(4 * 9, x.steady(0, 2, 10));
    }

    static void promise24LinesIntoTheBeginAndOutOfTheGoalDoNotMatter() {
        GoodsUnderWay x = Edges.pair(0, 0, 7, 1);
        x.line(0, 1, 0, 9, 1);
        Edges.due(7 * 5, x.steady(0, 1, 5));
        Edges.due(9 * 5, x.steady(1, 0, 5));
    }

    static void promise24ItIsExactFarAhead() {
        GoodsUnderWay x = Edges.chain(0, 3, 9);
        x.line(0, 0, 2, 2, 9);
        Edges.due(3L * (400000000 + 1 - 18) + 2L * (400000000 + 1 - 9), x.steady(0, 2, 400000000));
    }

    /** The quick way over the middle is given up in the end, for two that don't cross. */
    static void promise24LaterWaysMayTakeOverOthers() {
        GoodsUnderWay x = Edges.yards(4);
        x.line(0, 0, 1, 1, 1);
        x.line(0, 1, 2, 1, 1);
        x.line(0, 2, 3, 1, 1);
        x.line(0, 0, 2, 1, 6);
        x.line(0, 1, 3, 1, 6);
        long[] due = {0, 0, 0, 1, 2, 3, 4, 5, 6, 7, 8, 10, 12, 14};
        for (int n = 0; n < due.length; n++) {
            Edges.due(due[n], x.steady(0, 3, n));
        }
        Edges.due(2, x.rate(0, 3));
        Edges.dues(1, x.gain(0, 3, 3), x.gain(0, 3, 11));
    }

    /** Seven of nine that go over the middle are turned away again, by what comes later. */
    static void promise24LaterWaysMayTakeOverSomeOfOthers() {
        GoodsUnderWay x = Edges.yards(4);
        x.line(0, 2, 3, 9, 1);
        x.line(0, 0, 1, 9, 1);
        x.line(0, 1, 2, 9, 1);
        x.line(0, 1, 3, 8, 6);
        x.line(0, 0, 2, 7, 6);
        Edges.due(9, x.gain(0, 3, 3));
        Edges.due(7, x.gain(0, 3, 11));
        Edges.due(16, x.rate(0, 3));
        Edges.due(9 * 8, x.steady(0, 3, 10));
        Edges.due(9 * 9 + 7, x.steady(0, 3, 11));
        Edges.due(9 * 18 + 7 * 10, x.steady(0, 3, 20));
    }

    /** What was turned away from the middle once can't be turned away again. */
    static void promise24WhatIsTakenOverIsNoMoreThanWasThere() {
        GoodsUnderWay x = Edges.yards(4);
        x.line(0, 0, 1, 9, 1);
        x.line(0, 1, 2, 9, 1);
        x.line(0, 2, 3, 9, 1);
        x.line(0, 0, 2, 7, 6);
        x.line(0, 1, 3, 20, 6);
        x.line(0, 0, 2, 7, 8);
        Edges.due(9, x.gain(0, 3, 3));
        Edges.due(7, x.gain(0, 3, 11));
        Edges.due(2, x.gain(0, 3, 13));
        Edges.due(18, x.rate(0, 3));
        Edges.due(9 * 18 + 7 * 10 + 2 * 8, x.steady(0, 3, 20));
    }

    // ---- 25: rate

    static void promise25NoSuchStationIsBeyond() {
        Edges.refused(BEYOND, x -> x.rate(-1, 1), x -> x.rate(4, 1), x -> x.rate(0, -1), x -> x.rate(0, 4),
                x -> x.rate(LOW, HIGH), x -> x.rate(HIGH, LOW));
    }

    static void promise25OneAndTheSameIsBeyond() {
        Edges.refused(BEYOND, x -> x.rate(0, 0), x -> x.rate(3, 3));
    }

    static void promise25ChangesNothing() {
        Edges.keepsAll(x -> x.rate(0, 1), x -> x.rate(0, 3), x -> x.rate(3, 1));
    }

    static void promise25WithoutAWayItIs0() {
        Edges.due(0, Edges.yards(2).rate(0, 1));
        Edges.due(0, Edges.pair(50, 0, 7, 1).rate(1, 0));
        Edges.due(0, Edges.pair(50, 0, 0, 1).rate(0, 1));
        Edges.due(0, Edges.pair(50, 3, 1, 1).rate(0, 1));
    }

    static void promise25ItIsOfAllWays() {
        GoodsUnderWay x = Edges.yards(2);
        for (int i = 0; i < 10; i++) {
            x.line(4, 0, 1, 99, 9);
        }
        Edges.due(2970, x.rate(0, 1));
    }

    static void promise25TheNarrowestCounts() {
        GoodsUnderWay x = Edges.chain(0, 9, 9);
        x.change(1, 3, 4);
        Edges.due(4, x.rate(0, 2));
        Edges.due(9, x.rate(0, 1));
        x.change(1, 3, 9);
        x.change(0, 3, 3);
        Edges.dues(3, x.rate(0, 2), x.rate(0, 1), x.gain(0, 2, 18));
        Edges.due(9, x.rate(1, 2));
    }

    static void promise25RoomIsAsInThisTickWhateverWasSent() {
        GoodsUnderWay x = Edges.pair(50, 1, 7, 1);
        x.send(0, 7);
        Edges.due(7, x.rate(0, 1));
        x.go(1);
        Edges.due(0, x.rate(0, 1));
    }

    static void promise25ItIsWhatSteadyIsMoreInTheEnd() {
        GoodsUnderWay x = Edges.chain(0, 3, 9);
        x.line(0, 0, 2, 2, 9);
        Edges.due(5, x.rate(0, 2));
        Edges.due(5, x.steady(0, 2, 1000) - x.steady(0, 2, 999));
        Edges.due(5, x.steady(0, 2, 18) - x.steady(0, 2, 17));
        Edges.due(2, x.steady(0, 2, 17) - x.steady(0, 2, 16));
    }

    // ---- 26: gain

    static void promise26NoSuchStationIsBeyond() {
        Edges.refused(BEYOND, x -> x.gain(-1, 1, 3), x -> x.gain(4, 1, 3), x -> x.gain(0, -1, 3), x -> x.gain(0, 4, 3),
                x -> x.gain(LOW, HIGH, 3), x -> x.gain(HIGH, LOW, 3));
    }

    static void promise26OneAndTheSameIsBeyond() {
        Edges.refused(BEYOND, x -> x.gain(0, 0, 3), x -> x.gain(3, 3, 3));
    }

    static void promise26DBelow0IsBeyond() {
        Edges.refused(BEYOND, x -> x.gain(0, 1, -1), x -> x.gain(0, 1, LOW));
    }

    static void promise26DAbove120IsBeyond() {
        Edges.refused(BEYOND, x -> x.gain(0, 1, 121), x -> x.gain(0, 1, HIGH));
    }

    static void promise26ChangesNothing() {
        Edges.keepsAll(x -> x.gain(0, 1, 0), x -> x.gain(0, 3, 120), x -> x.gain(3, 1, 9));
    }

    /** Behind fewer than 0 ticks it is 0: the first two answers stand on that. */
    static void promise26WithTick0And1() {
        GoodsUnderWay x = Edges.pair(0, 0, 7, 1);
        Edges.due(0, x.gain(0, 1, 0));
        Edges.due(7, x.gain(0, 1, 1));
        Edges.due(0, x.gain(0, 1, 2));
    }

    static void promise26WithTick120() {
        Edges.due(0, Edges.pair(0, 0, 7, 1).gain(0, 1, 120));
        Edges.due(0, Edges.yards(2).gain(0, 1, 120));
    }

    static void promise26IsBySteadyBehindThreeTicks() {
        GoodsUnderWay x = Edges.chain(0, 3, 4);
        x.line(0, 0, 2, 2, 9);
        x.line(3, 0, 1, 9, 1);
        long before = 0;
        long ahead = 0;
        for (int d = 0; d <= 20; d++) {
            long is = x.steady(0, 2, d);
            Edges.due(is - 2 * before + ahead, x.gain(0, 2, d));
            ahead = before;
            before = is;
        }
    }

    /** Five barges by the highest tide: no way takes longer. */
    static void promise26TheLongestWay() {
        GoodsUnderWay x = Edges.yards(6);
        for (int i = 0; i < 5; i++) {
            x.line(4, i, i + 1, 99, 9);
            x.change(i, 5, 5);
        }
        x.go(5);
        Edges.dues(0, x.gain(0, 5, 74), x.gain(0, 5, 76), x.steady(0, 5, 74));
        Edges.due(297, x.gain(0, 5, 75));
        Edges.due(297, x.steady(0, 5, 75));
        Edges.due(75, x.reach(0, 5, 1));
    }

    // ---- 27: reach

    static void promise27NoSuchStationIsBeyond() {
        Edges.refused(BEYOND, x -> x.reach(-1, 1, 3), x -> x.reach(4, 1, 3), x -> x.reach(0, -1, 3),
                x -> x.reach(0, 4, 3), x -> x.reach(LOW, HIGH, 3), x -> x.reach(HIGH, LOW, 3));
    }

    static void promise27OneAndTheSameIsBeyond() {
        Edges.refused(BEYOND, x -> x.reach(0, 0, 3), x -> x.reach(3, 3, 0));
    }

    static void promise27GoodsBelow0AreBeyond() {
        Edges.refused(BEYOND, x -> x.reach(0, 1, -1), x -> x.reach(0, 1, LOW));
    }

    static void promise27BeyondIsAskedAheadOfNone() {
        Edges.refusedBy(() -> Edges.yards(2), BEYOND, x -> x.reach(0, 0, 1), x -> x.reach(0, 2, 1), x -> x.reach(0, 1, -1));
    }

    static void promise27NoGoodsAreThereAtOnce() {
        Edges.due(0, Edges.pair(0, 0, 7, 5).reach(0, 1, 0));
        Edges.due(0, Edges.yards(2).reach(0, 1, 0));
    }

    static void promise27NeverIsNone() {
        Edges.refusedBy(() -> Edges.yards(2), NONE, x -> x.reach(0, 1, 1), x -> x.reach(0, 1, HIGH));
        Edges.refusedBy(() -> Edges.pair(50, 0, 0, 1), NONE, x -> x.reach(0, 1, 1));
        Edges.refusedBy(() -> Edges.pair(50, 0, 7, 1), NONE, x -> x.reach(1, 0, 1));
    }

    static void promise27TheFewestTicksCount() {
        GoodsUnderWay x = Edges.pair(0, 0, 7, 5);
        Edges.dues(5, x.reach(0, 1, 1), x.reach(0, 1, 7));
        Edges.dues(6, x.reach(0, 1, 8), x.reach(0, 1, 14));
        Edges.due(7, x.reach(0, 1, 15));
    }

    static void promise27TheMostTicksAre2147483647() {
        GoodsUnderWay x = Edges.pair(0, 0, 1, 9);
        Edges.due(HIGH, x.reach(0, 1, HIGH - 8));
        Edges.due(HIGH - 1, x.reach(0, 1, HIGH - 9));
        x = Edges.pair(0, 0, 1, 1);
        Edges.due(HIGH, x.reach(0, 1, HIGH));
    }

    static void promise27AboveThemIsOver() {
        Edges.refusedBy(() -> Edges.pair(0, 0, 1, 9), OVER, x -> x.reach(0, 1, HIGH - 7), x -> x.reach(0, 1, HIGH));
        Edges.refusedBy(() -> Edges.pair(0, 0, 1, 2), OVER, x -> x.reach(0, 1, HIGH));
    }

    static void promise27GreatGoodsAreReachedExactly() {
        Edges.due(1 << 30, Edges.pair(0, 0, 2, 1).reach(0, 1, HIGH));
        Edges.due(1 << 30, two().reach(0, 1, HIGH));
        GoodsUnderWay x = Edges.chain(0, 3, 9);
        x.line(0, 0, 2, 2, 9);
        int n = x.reach(0, 2, HIGH);
        Edges.due(429496743, n);
        Edges.due(OVER, x.steady(0, 2, n));
        Edges.due(HIGH - 4, x.steady(0, 2, n - 1));
    }

    static void promise27ChangesNothing() {
        Edges.keepsAll(x -> x.reach(0, 1, 0), x -> x.reach(0, 1, 40), x -> x.reach(0, 2, 0));
    }

    public static void main(String[] args) throws IllegalAccessException, InvocationTargetException {
        Edges.run(EdgesForEverTest.class, 24, 27);
    }
}
