import java.lang.reflect.InvocationTargetException;

/** The edges of promises 13 to 17: what can be. */
public final class EdgesWhatCanBeTest {
    private static final int BEYOND = Check.BEYOND;
    private static final int NONE = Check.NONE;
    private static final int STATE = Check.STATE;
    private static final int MISSING = Check.MISSING;
    private static final int LOW = Edges.LOW;
    private static final int HIGH = Edges.HIGH;

    private EdgesWhatCanBeTest() { }

    /** MOST of a station behind 0, 1, .. ticks. */
    private static long[] mosts(GoodsUnderWay x, int g, int n) {
        long[] row = new long[n + 1];
        for (int i = 0; i <= n; i++) {
            row[i] = x.most(g, i);
        }
        return row;
    }

    // ---- 13: most

    static void promise13NoSuchStationIsBeyond() {
        Edges.refused(BEYOND, x -> x.most(-1, 3), x -> x.most(4, 3), x -> x.most(LOW, 0), x -> x.most(HIGH, 0));
        Edges.refusedBy(GoodsUnderWay::new, BEYOND, x -> x.most(0, 0));
    }

    static void promise13NBelow0IsBeyond() {
        Edges.refused(BEYOND, x -> x.most(0, -1), x -> x.most(0, LOW));
    }

    static void promise13NAbove24IsBeyond() {
        Edges.refused(BEYOND, x -> x.most(0, 25), x -> x.most(0, HIGH));
    }

    static void promise13ChangesNothing() {
        Edges.keepsAll(x -> x.most(0, 0), x -> x.most(1, 7), x -> x.most(2, 12), x -> x.most(3, 24));
    }

    static void promise13Behind0TicksItIsStock() {
        GoodsUnderWay x = Edges.pair(50, 0, 9, 1);
        Edges.due(50, x.most(0, 0));
        Edges.due(0, x.most(1, 0));
        x.send(0, 9);
        Edges.due(41, x.most(0, 0));
        Edges.due(0, x.most(1, 0));
    }

    static void promise13Behind24TicksAllOf24MayCome() {
        GoodsUnderWay x = Edges.pair(999, 0, 1, 1);
        Edges.due(23, x.most(1, 23));
        Edges.due(24, x.most(1, 24));
        x = Edges.pair(999, 0, 99, 9);
        Edges.due(999, x.most(1, 24));
        x = Edges.pair(999, 4, 99, 9);
        x.change(0, 5, 5);
        x.change(0, 3, 1);
        Edges.due(3, x.most(1, 24));
        x.go(5);
        Edges.due(6, x.most(1, 24));
    }

    static void promise13NoneIsLessThanNothing() {
        Edges.due(0, Edges.yards(1).most(0, 24));
        Edges.due(0, Edges.pair(0, 0, 9, 1).most(1, 24));
        Edges.due(0, Edges.pair(50, 0, 0, 1).most(1, 24));
    }

    static void promise13WithoutALineItIsStock() {
        GoodsUnderWay x = new GoodsUnderWay();
        x.station(0, 50);
        x.station(0, 7);
        Edges.due(7, x.most(1, 24));
    }

    static void promise13LinesGoOneWay() {
        GoodsUnderWay x = Edges.pair(50, 0, 9, 1);
        x.set(1, 1, 7);
        Edges.due(50, x.most(0, 24));
    }

    static void promise13WhatComesAtTheLastTickCounts() {
        for (int length = 1; length < 10; length++) {
            GoodsUnderWay x = Edges.pair(50, 0, 9, length);
            Edges.due(0, x.most(1, length - 1));
            Edges.due(9, x.most(1, length));
            Edges.due(18, x.most(1, length + 1));
        }
    }

    static void promise13WhatIsOnTheWayCountsFromItsTickOn() {
        GoodsUnderWay x = Edges.pair(5, 0, 9, 4);
        x.send(0, 5);
        Edges.row("most", Edges.is(0, 0, 0, 0, 5, 5), mosts(x, 1, 5));
        x.go(3);
        Edges.row("most", Edges.is(0, 5), mosts(x, 1, 1));
        x.go(1);
        Edges.row("most", Edges.is(5, 5), mosts(x, 1, 1));
    }

    /** A barge takes 15 ticks at most, and nothing comes again when as many have gone round. */
    static void promise13WhatIsFarthestOnTheWayCounts() {
        GoodsUnderWay x = Edges.pair(5, 4, 9, 9);
        x.change(0, 5, 5);
        x.go(5);
        x.send(0, 5);
        Edges.due(0, x.most(1, 14));
        Edges.dues(5, x.most(1, 15), x.most(1, 16), x.most(1, 24));
        x.go(1);
        Edges.due(0, x.most(1, 13));
        Edges.dues(5, x.most(1, 14), x.most(1, 24));
    }

    /** Every pair of every station has its part in it. */
    static void promise13SixStationsTenLinesAnd24Ticks() {
        GoodsUnderWay x = Edges.yards(6);
        for (int i = 0; i < 10; i++) {
            x.set(i / 2, 1, 999);
            x.line(0, i / 2, 5, 1, 1);
        }
        Edges.due(240, x.most(5, 24));
        Edges.due(230, x.most(5, 23));
        for (int i = 0; i < 10; i++) {
            x.change(i, 0, 3);
            x.change(i, 3, 99);
        }
        Edges.due(4995, x.most(5, 24));
        Edges.due(49 * 10, x.most(5, 1));
    }

    static void promise13WhatComesElsewhereIsSentOn() {
        GoodsUnderWay x = Edges.chain(5, 9, 2);
        x.send(0, 5);
        Edges.row("most", Edges.is(0, 0, 0, 0, 5), mosts(x, 2, 4));
    }

    static void promise13WhatWasSentTakesRoomInThisTickAlone() {
        GoodsUnderWay x = Edges.pair(50, 0, 9, 1);
        x.line(0, 1, 0, 9, 1);
        x.send(0, 4);
        Edges.row("most", Edges.is(0, 9, 18, 27), mosts(x, 1, 3));
        x.change(0, 2, 1);
        x.send(0, 5);
        Edges.row("most", Edges.is(0, 9, 18, 27), mosts(x, 1, 3));
    }

    /** Below what was sent, room is 0, and takes nothing from anything. */
    static void promise13RoomIs0AtLeast() {
        GoodsUnderWay x = Edges.pair(50, 0, 9, 1);
        x.send(0, 9);
        x.change(0, 3, 2);
        Edges.row("most", Edges.is(0, 9, 11, 13), mosts(x, 1, 3));
        x.change(0, 3, 0);
        Edges.row("most", Edges.is(0, 9, 9, 9), mosts(x, 1, 3));
    }

    static void promise13RoomIsLaterFromShiftOn() {
        GoodsUnderWay x = Edges.pair(99, 0, 2, 1);
        x.change(0, 6, 9);
        x.change(0, 7, 3);
        Edges.row("most", Edges.is(0, 2, 4, 6, 15), mosts(x, 1, 4));
        x.go(1);
        Edges.row("most", Edges.is(0, 2, 4, 13), mosts(x, 1, 3));
        x.go(2);
        Edges.row("most", Edges.is(0, 9), mosts(x, 1, 1));
    }

    static void promise13RoomIsByTheTickNotByHowFarAhead() {
        GoodsUnderWay x = Edges.pair(99, 1, 3, 1);
        Edges.row("most", Edges.is(0, 3, 3, 6, 6), mosts(x, 1, 4));
        x.go(1);
        Edges.row("most", Edges.is(0, 0, 3, 3, 6), mosts(x, 1, 4));
        x = Edges.pair(99, 2, 3, 1);
        x.change(0, 5, 4);
        x.go(5);
        Edges.row("most", Edges.is(0, 0, 3, 3, 3, 3, 3, 6), mosts(x, 1, 7));
    }

    private static GoodsUnderWay waiting(int kind, int stock, int store) {
        GoodsUnderWay x = new GoodsUnderWay();
        x.station(kind, 0);
        x.station(0, 0);
        x.set(0, 1, stock);
        x.set(0, 2, store);
        x.line(0, 0, 1, 5, 1);
        return x;
    }

    static void promise13WhatStaysIsWithinHolds() {
        Edges.row("most", Edges.is(0, 5, 10, 12, 12), mosts(waiting(1, 50, 7), 1, 4));
        Edges.row("most", Edges.is(0, 5, 5, 5, 5), mosts(waiting(1, 50, 0), 1, 4));
        Edges.row("most", Edges.is(0, 5, 10, 15, 20), mosts(waiting(0, 50, 0), 1, 4));
    }

    static void promise13AQuayHoldsByTheTick() {
        Edges.row("most", Edges.is(0, 5, 10, 12, 12), mosts(waiting(2, 50, 2), 1, 4));
        GoodsUnderWay x = waiting(2, 50, 2);
        x.go(1);
        x.set(0, 1, 50);
        Edges.row("most", Edges.is(0, 5, 7, 7), mosts(x, 1, 3));
    }

    static void promise13AVaultHoldsByTheTick() {
        Edges.row("most", Edges.is(0, 5, 10, 12, 12), mosts(waiting(3, 50, 2), 1, 4));
        GoodsUnderWay x = waiting(3, 50, 2);
        x.change(0, 3, 0);
        x.change(0, 6, 99);
        x.change(0, 7, 1);
        Edges.due(12, x.most(1, 2));
        x.go(3);
        x.set(0, 1, 50);
        x.change(0, 7, 4);
        Edges.due(12, x.most(1, 2));
        x.change(0, 7, 5);
        Edges.due(2, x.most(1, 3));
    }

    static void promise13WhatIsAtTheGoalNeedsNoHolds() {
        GoodsUnderWay x = Edges.chain(50, 9, 1);
        x.set(1, 2, 0);
        Edges.row("most", Edges.is(0, 9, 18, 27, 36, 45, 50, 50), mosts(x, 1, 7));
        x.set(1, 1, 999);
        Edges.due(1049, x.most(1, 24));
    }

    static void promise13WhatIsAtTheGoalTwiceCountsOnce() {
        GoodsUnderWay x = Edges.pair(10, 0, 9, 1);
        x.line(0, 1, 0, 9, 1);
        Edges.dues(10, x.most(0, 0), x.most(0, 24), x.most(1, 24));
        x.send(0, 9);
        Edges.due(1, x.most(0, 1));
        Edges.due(10, x.most(0, 2));
    }

    static void promise13WhatIsLostDoesNotCount() {
        GoodsUnderWay x = new GoodsUnderWay();
        x.station(1, 50);
        Edges.due(50, x.most(0, 24));
        x.go(1);
        Edges.due(20, x.most(0, 24));
    }

    static void promise13GoodsComeToTheStationAsTheLineIs() {
        GoodsUnderWay x = Edges.chain(9, 9, 2);
        x.send(0, 9);
        x.change(0, 2, 2);
        Edges.due(0, x.most(1, 24));
        Edges.row("most", Edges.is(0, 0, 9), mosts(x, 2, 2));
    }

    // ---- 14: quick

    static void promise14NoSuchStationIsBeyond() {
        Edges.refused(BEYOND, x -> x.quick(-1, 3), x -> x.quick(4, 3), x -> x.quick(LOW, 0), x -> x.quick(HIGH, 0));
    }

    static void promise14GoodsBelow0AreBeyond() {
        Edges.refused(BEYOND, x -> x.quick(0, -1), x -> x.quick(0, LOW));
    }

    static void promise14NoGoodsAreThereAtOnce() {
        Edges.due(0, Edges.yards(1).quick(0, 0));
        Edges.due(0, Edges.pair(50, 0, 9, 1).quick(1, 0));
    }

    static void promise14StockIsThereAtOnce() {
        GoodsUnderWay x = Edges.pair(50, 0, 9, 1);
        Edges.due(0, x.quick(0, 50));
        Edges.due(NONE, x.quick(0, 51));
    }

    static void promise14TheFewestTicksCount() {
        GoodsUnderWay x = Edges.pair(50, 0, 9, 2);
        Edges.dues(2, x.quick(1, 1), x.quick(1, 9));
        Edges.dues(3, x.quick(1, 10), x.quick(1, 18));
        Edges.dues(7, x.quick(1, 46), x.quick(1, 50));
    }

    static void promise14TwentyFourTicksAreTheMost() {
        GoodsUnderWay x = Edges.pair(999, 0, 1, 1);
        Edges.due(23, x.quick(1, 23));
        Edges.due(24, x.quick(1, 24));
        Edges.due(NONE, x.quick(1, 25));
    }

    static void promise14NeverIsNone() {
        Edges.refused(NONE, x -> x.quick(0, 9999), x -> x.quick(3, HIGH));
        Edges.refusedBy(() -> Edges.yards(1), NONE, x -> x.quick(0, 1));
    }

    static void promise14ChangesNothing() {
        Edges.keepsAll(x -> x.quick(0, 0), x -> x.quick(3, 20), x -> x.quick(1, 30));
    }

    // ---- 15: all

    static void promise15NoSuchStationIsBeyond() {
        Edges.refused(BEYOND, x -> x.all(-1), x -> x.all(4), x -> x.all(LOW), x -> x.all(HIGH));
        Edges.refusedBy(GoodsUnderWay::new, BEYOND, x -> x.all(0));
    }

    static void promise15WithoutGoodsItIsAtOnce() {
        Edges.due(0, Edges.yards(1).all(0));
        Edges.due(0, Edges.pair(0, 0, 0, 1).all(1));
    }

    static void promise15WhatIsOnTheWayIsOfThem() {
        GoodsUnderWay x = Edges.pair(5, 0, 9, 4);
        x.send(0, 5);
        Edges.due(4, x.all(1));
        Edges.due(NONE, x.all(0));
        x.go(3);
        Edges.due(1, x.all(1));
    }

    static void promise15TwentyFourTicksAreTheMost() {
        Edges.due(23, Edges.pair(23, 0, 1, 1).all(1));
        Edges.due(24, Edges.pair(24, 0, 1, 1).all(1));
        Edges.due(NONE, Edges.pair(25, 0, 1, 1).all(1));
    }

    static void promise15WhatCannotComeIsNone() {
        Edges.refusedBy(() -> Edges.pair(5, 0, 0, 1), NONE, x -> x.all(1));
        Edges.refusedBy(() -> waiting(1, 26, 20), NONE, x -> x.all(1));
    }

    static void promise15OneThatIsLostIsTooMany() {
        Edges.due(5, waiting(1, 25, 20).all(1));
        Edges.due(NONE, waiting(1, 26, 20).all(1));
    }

    static void promise15WhatWasLostDoesNotCount() {
        GoodsUnderWay x = waiting(1, 50, 20);
        Edges.due(NONE, x.all(1));
        x.go(1);
        Edges.due(30, x.now(3));
        Edges.due(4, x.all(1));
    }

    static void promise15ChangesNothing() {
        Edges.refused(NONE, x -> x.all(0), x -> x.all(1));
        GoodsUnderWay x = Edges.pair(5, 0, 9, 4);
        x.all(1);
        Edges.alike(x, Edges.pair(5, 0, 9, 4));
    }

    // ---- 16: near

    static void promise16NoSuchStationIsBeyond() {
        Edges.refused(BEYOND, x -> x.near(-1, 0, 3), x -> x.near(4, 0, 3), x -> x.near(LOW, 0, 3), x -> x.near(HIGH, 0, 3));
    }

    static void promise16NoSuchGoalIsBeyond() {
        Edges.refused(BEYOND, x -> x.near(0, -1, 3), x -> x.near(0, 4, 3), x -> x.near(0, LOW, 3), x -> x.near(0, HIGH, 3));
    }

    static void promise16NBelow0IsBeyond() {
        Edges.refused(BEYOND, x -> x.near(0, 1, -1), x -> x.near(0, 1, LOW));
    }

    static void promise16NAbove24IsBeyond() {
        Edges.refused(BEYOND, x -> x.near(0, 1, 25), x -> x.near(0, 1, HIGH));
    }

    static void promise16ChangesNothing() {
        Edges.keepsAll(x -> x.near(0, 1, 0), x -> x.near(1, 3, 7), x -> x.near(2, 2, 24));
    }

    static void promise16TheGoalIsNeverNear() {
        GoodsUnderWay x = Edges.pair(50, 0, 1, 1);
        x.set(1, 1, 99);
        Edges.dues(0, x.near(1, 1, 0), x.near(1, 1, 3), x.near(1, 1, 24));
    }

    static void promise16AllTicksUpToTheLastAreNear() {
        GoodsUnderWay x = Edges.pair(50, 0, 1, 1);
        Edges.due(0b1, x.near(0, 1, 0));
        Edges.due(0b11, x.near(0, 1, 1));
        Edges.due(0b1111, x.near(0, 1, 3));
        Edges.due((1 << 25) - 1, x.near(0, 1, 24));
    }

    static void promise16TheLastStationInTheLastTick() {
        GoodsUnderWay x = Edges.yards(6);
        Edges.dues(0, x.near(5, 0, 24), x.near(1, 0, 24), x.near(0, 5, 24));
        x.set(5, 1, 1);
        x.set(1, 1, 1);
        Edges.dues((1 << 25) - 1, x.near(5, 0, 24), x.near(1, 0, 24));
        Edges.dues(0, x.near(4, 0, 24), x.near(0, 0, 24), x.near(2, 0, 24));
    }

    /** Where the goods themselves cost no more than the line, the empty side is one of the least. */
    static void promise16WhatCanBeLeftOutIsNotNear() {
        GoodsUnderWay x = Edges.pair(24, 0, 1, 1);
        Edges.due(0, x.near(0, 1, 24));
        x.set(0, 1, 25);
        Edges.due((1 << 25) - 1, x.near(0, 1, 24));
        Edges.due(0, Edges.pair(0, 0, 1, 1).near(0, 1, 3));
    }

    static void promise16WhatCannotComeIsNear() {
        Edges.due(0b111, Edges.pair(1, 0, 0, 1).near(0, 1, 2));
        Edges.due(0b1, Edges.pair(1, 0, 9, 1).near(0, 1, 0));
    }

    static void promise16HoldsEndTheNearSide() {
        Edges.due(0b001, waiting(1, 50, 0).near(0, 1, 2));
        Edges.due(0b001, waiting(1, 50, 3).near(0, 1, 2));
        Edges.due(0b111, waiting(1, 50, 10).near(0, 1, 2));
        Edges.due(0b001, waiting(1, 50, 5).near(0, 1, 2));
    }

    static void promise16TheSideGoesOnAlongLines() {
        GoodsUnderWay x = Edges.chain(50, 9, 1);
        x.change(1, 3, 4);
        x.set(1, 2, 99);
        Edges.due(0b1111, x.near(0, 2, 3));
        Edges.due(0b1110, x.near(1, 2, 3));
        Edges.due(0, x.near(2, 2, 3));
    }

    static void promise16WhatWasSentIsNotThereToBeSent() {
        GoodsUnderWay x = Edges.pair(9, 0, 4, 1);
        Edges.due(0b11, x.near(0, 1, 1));
        x.send(0, 4);
        Edges.due(0b11, x.near(0, 1, 1));
        Edges.due(0b111, x.near(0, 1, 2));
        Edges.due(0, x.near(0, 1, 3));
    }

    // ---- 17: cost

    static void promise17NoSuchSheetIsBeyond() {
        Edges.refused(BEYOND, x -> x.cost(-1, 0, 3), x -> x.cost(4, 0, 3), x -> x.cost(LOW, 0, 3), x -> x.cost(HIGH, 0, 3));
    }

    static void promise17AMissingSheetIsMissing() {
        Edges.refused(MISSING, x -> x.cost(3, 0, 3));
    }

    static void promise17MissingIsAskedAheadOfStationAndN() {
        Edges.refused(MISSING, x -> x.cost(3, -1, 3), x -> x.cost(3, 0, 25), x -> x.cost(3, 9, -1));
    }

    static void promise17NoSuchStationIsBeyond() {
        Edges.refused(BEYOND, x -> x.cost(1, -1, 3), x -> x.cost(1, 4, 3), x -> x.cost(1, LOW, 3), x -> x.cost(1, HIGH, 3));
    }

    static void promise17NBelow0OrAbove24IsBeyond() {
        Edges.refused(BEYOND, x -> x.cost(1, 0, -1), x -> x.cost(1, 0, 25), x -> x.cost(1, 0, LOW), x -> x.cost(1, 0, HIGH));
    }

    static void promise17BeyondIsAskedAheadOfState() {
        Edges.refused(BEYOND, x -> x.cost(0, 0, 25), x -> x.cost(0, 0, -1));
    }

    static void promise17APairOfTheGoalIsState() {
        Edges.refused(STATE, x -> x.cost(0, 0, 0), x -> x.cost(0, 0, 24), x -> x.cost(0, 1, 1), x -> x.cost(0, 2, 2));
    }

    static void promise17NumbersAboveNOrBelow0AreOfNoPair() {
        GoodsUnderWay x = Edges.rich();
        Edges.holdsNoFinding(x.cost(0, 1, 0));
        Edges.holdsNoFinding(x.cost(0, 2, 1));
        Edges.holdsNoFinding(x.cost(1, 1, 24));
    }

    static void promise17ChangesNothing() {
        Edges.keepsAll(x -> x.cost(1, 1, 0), x -> x.cost(1, 1, 24), x -> x.cost(2, 0, 9));
    }

    /** Yard 0 with 50, shed 1 with 7, quay 2 with 3; roads of 9, one tick each. */
    private static GoodsUnderWay sides(long... numbers) {
        GoodsUnderWay x = Edges.chain(50, 9, 1);
        x.set(1, 1, 7);
        x.set(2, 1, 3);
        Edges.write(x, 0, 64, numbers);
        return x;
    }

    static void promise17OfTheEmptySideItIsAllGoods() {
        Edges.due(60, sides().cost(0, 2, 4));
        Edges.due(60, sides(-1, -1, -1).cost(0, 2, 4));
        Edges.due(60, sides(5, 5, 5).cost(0, 2, 4));
        Edges.due(60, sides(5, HIGH, Long.MIN_VALUE).cost(0, 2, 4));
        Edges.due(60, sides(1L << 32, -1L << 32, Long.MAX_VALUE).cost(0, 2, 4));
    }

    static void promise17StationsWithoutANumberAreOutside() {
        Edges.due(7 + 3 + 4 * 9, sides(0).cost(0, 2, 4));
        Edges.due(7 + 3 + 4 * 9, sides(0, -1, -1).cost(0, 2, 4));
    }

    static void promise17NumbersWithoutAStationDoNotMatter() {
        Edges.due(3 + 4 * 9, sides(0, 0, -1, 0, 0, 0, 0).cost(0, 2, 4));
        Edges.due(3 + 4 * 9, sides(0, 0).cost(0, 2, 4));
    }

    static void promise17TheSideBeginsWithThatTick() {
        Edges.due(3 + 4 * 9, sides(0, 0).cost(0, 2, 4));
        Edges.due(3 + 7 + 3 * 9, sides(0, 1).cost(0, 2, 4));
        Edges.due(3 + 7 + 9 + 2 * 9, sides(0, 2).cost(0, 2, 4));
        Edges.due(3 + 7 + 3 * 9, sides(0, 4).cost(0, 2, 4));
        Edges.due(3 + 7 + 4 * 9, sides(0, 5).cost(0, 2, 4));
    }

    static void promise17WithTheLastTickAloneNoLineCosts() {
        Edges.due(60, sides(4, 4).cost(0, 2, 4));
        Edges.due(60 + 9, sides(3, -1).cost(0, 2, 4));
        Edges.due(60, sides(4, -1).cost(0, 2, 4));
    }

    static void promise17BehindNoTickItIsStockOutside() {
        Edges.due(10, sides(0).cost(0, 2, 0));
        Edges.due(3, sides(0, 0).cost(0, 2, 0));
        Edges.due(57, sides(-1, 1, 0).cost(0, 1, 0));
        Edges.due(60, sides(1).cost(0, 2, 0));
    }

    static void promise17StockOfTheGoalCosts() {
        Edges.due(3, sides(0, 0).cost(0, 2, 0));
    }

    static void promise17LinesFromTheGoalDoNotCost() {
        Edges.due(50 + 7, sides(-1, -1, 0).cost(0, 1, 4));
        Edges.due(50 + 3 + 4 * 9, sides(-1, 0).cost(0, 2, 4));
        Edges.due(7 + 3 + 4 * 9, sides(0, -1).cost(0, 1, 4));
    }

    static void promise17WhatIsOnTheWayCostsWhereItComesOutside() {
        GoodsUnderWay x = Edges.chain(50, 9, 3);
        x.send(0, 4);
        Edges.write(x, 0, 16, -1, 3);
        Edges.due(46, x.cost(0, 2, 4));
        Edges.due(46, x.cost(0, 2, 2));
        Edges.write(x, 0, 16, -1, 4);
        Edges.due(46 + 4, x.cost(0, 2, 4));
        Edges.due(46 + 4, x.cost(0, 2, 3));
        Edges.due(46, x.cost(0, 2, 2));
        Edges.due(46, x.cost(0, 1, 2));
        Edges.due(46 + 4, x.cost(0, 1, 3));
    }

    static void promise17RoomIsLessWhatWasSentBut0AtLeast() {
        GoodsUnderWay x = Edges.pair(50, 0, 9, 1);
        Edges.write(x, 0, 16, 0);
        x.send(0, 4);
        Edges.due(4 + 5 + 2 * 9, x.cost(0, 1, 3));
        x.change(0, 3, 2);
        Edges.due(4 + 0 + 2 * 2, x.cost(0, 1, 3));
    }

    static void promise17RoomIsThatOfItsTick() {
        GoodsUnderWay x = Edges.pair(50, 1, 5, 1);
        Edges.write(x, 0, 16, 0);
        x.go(1);
        Edges.due(0, x.cost(0, 1, 1));
        Edges.due(5, x.cost(0, 1, 2));
        Edges.due(5, x.cost(0, 1, 3));
        Edges.due(12 * 5, x.cost(0, 1, 24));
    }

    static void promise17IsNeverBelowMost() {
        for (int a = -1; a <= 4; a++) {
            for (int b = -1; b <= 4; b++) {
                GoodsUnderWay x = sides(a, b);
                Edges.holds(x.cost(0, 2, 4) >= x.most(2, 4));
            }
        }
    }

    static void promise17OfTheNearSideItIsMost() {
        GoodsUnderWay x = Edges.pair(50, 0, 1, 1);
        Edges.write(x, 0, 16, 0);
        for (int n = 0; n <= 24; n++) {
            Edges.due(n, x.most(1, n));
            Edges.due(n, x.cost(0, 1, n));
        }
    }

    public static void main(String[] args) throws IllegalAccessException, InvocationTargetException {
        Edges.run(EdgesWhatCanBeTest.class, 13, 17);
    }
}
