import java.lang.reflect.InvocationTargetException;

/** The edges of promises 10 to 12: ticks. */
public final class EdgesTicksTest {
    private static final int BEYOND = Check.BEYOND;
    private static final int STATE = Check.STATE;
    private static final int LOW = Edges.LOW;
    private static final int HIGH = Edges.HIGH;

    private EdgesTicksTest() { }

    // ---- 10: send

    static void promise10NoSuchLineIsBeyond() {
        Edges.refused(BEYOND, x -> x.send(-1, 0), x -> x.send(5, 0), x -> x.send(LOW, 0), x -> x.send(HIGH, 0));
    }

    static void promise10GoodsBelow0AreBeyond() {
        Edges.refused(BEYOND, x -> x.send(0, -1), x -> x.send(0, LOW));
    }

    static void promise10GoodsAbove9999AreBeyond() {
        Edges.refused(BEYOND, x -> x.send(0, 10000), x -> x.send(0, HIGH));
    }

    static void promise10Goods9999AreNotBeyond() {
        Edges.refused(STATE, x -> x.send(0, 9999));
    }

    static void promise10BeyondIsAskedAheadOfState() {
        Edges.refusedBy(() -> Edges.pair(0, 0, 0, 1), BEYOND, x -> x.send(0, -1), x -> x.send(0, 10000), x -> x.send(1, 1));
    }

    static void promise10AllOfStockMayBeSent() {
        GoodsUnderWay x = Edges.pair(7, 0, 9, 1);
        Edges.due(0, x.send(0, 7));
        Edges.due(7, x.its(0, 10));
    }

    static void promise10MoreThanStockIsState() {
        Edges.refusedBy(() -> Edges.pair(7, 0, 9, 1), STATE, x -> x.send(0, 8), x -> x.send(0, 9));
    }

    static void promise10AllOfRoomMayBeSent() {
        GoodsUnderWay x = Edges.pair(50, 0, 9, 1);
        Edges.due(41, x.send(0, 9));
        x = Edges.pair(500, 4, 99, 1);
        Edges.due(203, x.send(0, 297));
    }

    static void promise10MoreThanRoomIsState() {
        Edges.refusedBy(() -> Edges.pair(50, 0, 9, 1), STATE, x -> x.send(0, 10), x -> x.send(0, 50));
        Edges.refusedBy(() -> Edges.pair(500, 4, 99, 1), STATE, x -> x.send(0, 298));
    }

    private static GoodsUnderWay sent(int goods) {
        GoodsUnderWay x = Edges.pair(50, 0, 9, 1);
        x.send(0, goods);
        return x;
    }

    static void promise10SentAndTheseTogetherMayBeRoom() {
        GoodsUnderWay x = sent(5);
        Edges.due(41, x.send(0, 4));
        Edges.due(9, x.its(0, 10));
    }

    static void promise10SentAndTheseAboveRoomAreState() {
        Edges.refusedBy(() -> sent(5), STATE, x -> x.send(0, 5), x -> x.send(0, 9));
        Edges.refusedBy(() -> sent(9), STATE, x -> x.send(0, 1));
    }

    static void promise10NoGoodsAreFineWithoutStockOrRoom() {
        Edges.due(0, Edges.pair(0, 0, 0, 1).send(0, 0));
        Edges.due(41, sent(9).send(0, 0));
    }

    /** Nothing together with what was sent is still above a room that is narrower now. */
    static void promise10NoGoodsAreStateWhereSentIsAboveRoom() {
        Edges.refusedBy(() -> {
            GoodsUnderWay x = sent(5);
            x.change(0, 3, 4);
            return x;
        }, STATE, x -> x.send(0, 0));
        GoodsUnderWay x = sent(5);
        x.change(0, 3, 5);
        Edges.due(45, x.send(0, 0));
    }

    static void promise10RoomIsThatOfThisTick() {
        GoodsUnderWay x = Edges.pair(50, 1, 9, 1);
        x.go(1);
        Edges.due(STATE, x.send(0, 1));
        x.go(1);
        Edges.due(41, x.send(0, 9));
        x = Edges.pair(50, 0, 9, 1);
        x.change(0, 7, 1);
        x.change(0, 6, 2);
        x.go(1);
        Edges.due(STATE, x.send(0, 3));
        Edges.due(48, x.send(0, 2));
    }

    static void promise10RoomIsWholeAgainInTheNextTick() {
        GoodsUnderWay x = sent(9);
        x.go(1);
        Edges.due(32, x.send(0, 9));
    }

    static void promise10LinesFromOneStationShareItsStock() {
        GoodsUnderWay x = Edges.pair(10, 0, 9, 1);
        x.line(0, 0, 1, 9, 1);
        Edges.due(3, x.send(0, 7));
        Edges.due(STATE, x.send(1, 4));
        Edges.due(0, x.send(1, 3));
    }

    static void promise10TheyAreOnTheWay() {
        GoodsUnderWay x = sent(6);
        Edges.due(6, x.its(0, 11));
        Edges.due(0, x.of(1, 1));
        Edges.due(50, x.count(4));
    }

    /** A barge's longest way, across the ends of what a row of sixteen places could hold. */
    static void promise10TheyComeWhenTheLineTakesThem() {
        for (int tick = 5; tick < 20; tick += 6) {
            GoodsUnderWay x = Edges.pair(50, 4, 9, 9);
            x.change(0, 5, 5);
            x.go(tick);
            x.send(0, 4);
            x.go(14);
            Edges.dues(0, x.of(1, 1));
            Edges.due(4, x.its(0, 11));
            x.go(1);
            Edges.due(4, x.of(1, 1));
            Edges.due(0, x.its(0, 11));
            x.go(1);
            Edges.due(4, x.of(1, 1));
        }
    }

    static void promise10TheyComeInTheNextTickAtTheSoonest() {
        GoodsUnderWay x = Edges.pair(50, 3, 9, 9);
        x.send(0, 4);
        Edges.due(0, x.of(1, 1));
        x.go(1);
        Edges.due(4, x.of(1, 1));
    }

    static void promise10ALineMayTakeLongerOrLessThanBefore() {
        GoodsUnderWay x = Edges.pair(50, 0, 9, 3);
        x.send(0, 1);
        x.change(0, 4, 1);
        x.send(0, 2);
        x.change(0, 4, 2);
        x.send(0, 4);
        long[] due = {0, 2, 6, 7, 7};
        for (int i = 0; i < due.length; i++) {
            Edges.due(due[i], x.of(1, 1));
            x.go(1);
        }
    }

    // ---- 11: go

    static void promise11Below1IsBeyond() {
        Edges.refused(BEYOND, x -> x.go(0), x -> x.go(-1), x -> x.go(LOW));
    }

    static void promise11Above60IsBeyond() {
        Edges.refused(BEYOND, x -> x.go(61), x -> x.go(HIGH));
    }

    static void promise11OneTickGoes() {
        GoodsUnderWay x = new GoodsUnderWay();
        Edges.due(0, x.go(1));
        Edges.due(1, x.now(0));
    }

    static void promise11SixtyTicksGo() {
        GoodsUnderWay x = new GoodsUnderWay();
        Edges.due(0, x.go(60));
        Edges.due(60, x.now(0));
    }

    static void promise11ManyAreAsOneByOne() {
        GoodsUnderWay x = Edges.rich();
        GoodsUnderWay twin = Edges.rich();
        x.go(13);
        for (int i = 0; i < 13; i++) {
            twin.go(1);
        }
        Edges.alike(x, twin);
    }

    /** Goods, and what is lost of them in the tick that goes, at a station of a kind. */
    private static void lost(int kind, int ticksAhead, int stock, int lost) {
        GoodsUnderWay x = new GoodsUnderWay();
        x.station(kind, 0);
        if (ticksAhead > 0) {
            x.go(ticksAhead);
        }
        x.set(0, 1, stock);
        Edges.due(lost, x.go(1));
        Edges.due(stock - lost, x.of(0, 1));
        Edges.dues(lost, x.now(3), x.count(3));
    }

    static void promise11AShedLosesWhatIsAboveItsStore() {
        lost(1, 0, 20, 0);
        lost(1, 0, 21, 1);
        lost(1, 3, 999, 979);
        lost(1, 1, 0, 0);
    }

    static void promise11AQuayLosesInOddTicksAlone() {
        lost(2, 0, 999, 0);
        lost(2, 1, 20, 0);
        lost(2, 1, 21, 1);
        lost(2, 2, 999, 0);
    }

    static void promise11AVaultHoldsTenMoreInMultiplesOf3() {
        lost(3, 0, 30, 0);
        lost(3, 0, 31, 1);
        lost(3, 1, 20, 0);
        lost(3, 1, 21, 1);
        lost(3, 2, 21, 1);
        lost(3, 3, 30, 0);
        lost(3, 3, 31, 1);
    }

    static void promise11AYardLosesNothing() {
        lost(0, 0, 999, 0);
        lost(0, 1, 999, 0);
    }

    static void promise11WithoutStoreAllIsLost() {
        GoodsUnderWay x = new GoodsUnderWay();
        x.station(1, 7);
        x.set(0, 2, 0);
        Edges.due(7, x.go(1));
        Edges.due(0, x.of(0, 1));
    }

    static void promise11LostIsOfAllStationsAndTicks() {
        GoodsUnderWay x = new GoodsUnderWay();
        x.station(1, 25);
        x.station(1, 27);
        Edges.due(12, x.go(1));
        x.set(0, 1, 21);
        Edges.due(13, x.go(1));
        Edges.due(13, x.go(60));
        Edges.due(40, x.count(4));
    }

    /** What comes is never lost in the tick that goes, and may be in the next one. */
    static void promise11WhatComesIsHeldFirstInTheNextTick() {
        GoodsUnderWay x = Edges.chain(50, 30, 1);
        x.set(1, 1, 20);
        x.send(0, 30);
        Edges.due(0, x.go(1));
        Edges.due(50, x.of(1, 1));
        Edges.due(30, x.go(1));
        Edges.due(20, x.of(1, 1));
    }

    static void promise11WhatIsSentIsNotLost() {
        GoodsUnderWay x = new GoodsUnderWay();
        x.station(1, 25);
        x.station(0, 0);
        x.line(0, 0, 1, 9, 1);
        x.send(0, 5);
        Edges.due(0, x.go(1));
        Edges.due(20, x.of(0, 1));
        Edges.due(5, x.of(1, 1));
    }

    static void promise11SentOfAllLinesIs0Then() {
        GoodsUnderWay x = Edges.chain(50, 9, 2);
        x.set(1, 1, 5);
        x.send(0, 3);
        x.send(1, 4);
        x.go(1);
        Edges.dues(0, x.its(0, 10), x.its(1, 10), x.now(4));
    }

    static void promise11WhatComesByManyLinesIsStockOfOne() {
        GoodsUnderWay x = Edges.pair(50, 0, 9, 3);
        x.line(0, 0, 1, 9, 1);
        x.send(0, 2);
        x.go(2);
        x.send(1, 4);
        x.set(1, 1, 8);
        x.go(1);
        Edges.due(14, x.of(1, 1));
    }

    static void promise11GoodsComeToTheStationAsTheLineIsThen() {
        GoodsUnderWay x = Edges.chain(50, 9, 2);
        x.send(0, 6);
        x.go(1);
        x.change(0, 2, 2);
        x.go(1);
        Edges.due(0, x.of(1, 1));
        Edges.due(6, x.of(2, 1));
    }

    static void promise11GoodsMayComeBackToWhereTheyWere() {
        GoodsUnderWay x = Edges.chain(50, 9, 2);
        x.send(0, 6);
        x.change(0, 1, 2);
        x.change(0, 2, 0);
        x.go(2);
        Edges.due(50, x.of(0, 1));
    }

    /** Yard 5 with 96,525 goods, by yards 0 to 4 that are laid full again and again. */
    private static GoodsUnderWay heap() {
        GoodsUnderWay x = Edges.yards(6);
        for (int i = 0; i < 5; i++) {
            x.line(4, i, 5, 99, 1);
        }
        Edges.write(x, 0, 16, 999, 999, 999, 999, 999);
        x.sheet(1, 16, 39);
        for (int i = 0; i < 13; i++) {
            x.write(1, 3 * i, i % 5);
            x.write(1, 3 * i + 1, i / 5);
            x.write(1, 3 * i + 2, 297);
        }
        for (int i = 0; i < 25; i++) {
            x.lays(0);
            x.run(1, 5, 5);
        }
        x.lays(0);
        return x;
    }

    static void promise11AYardHolds99999AndNoMore() {
        GoodsUnderWay x = heap();
        Edges.due(96525, x.of(5, 1));
        for (int i = 0; i < 11; i++) {
            x.send(i % 5, 297);
            if (i % 5 == 4) {
                x.go(1);
            }
        }
        x.send(1, 207);
        x.go(2);
        Edges.due(99999, x.of(5, 1));
        Edges.due(0, x.now(6));
        Edges.due(0, x.go(1));
        x.send(2, 1);
        Edges.due(0, x.go(2));
        Edges.due(100000, x.of(5, 1));
        Edges.due(1 << 5, x.now(6));
        Edges.due(1, x.go(1));
        Edges.due(99999, x.of(5, 1));
        Edges.due(0, x.now(6));
    }

    // ---- 12: now

    static void promise12WhatBelow0IsBeyond() {
        Edges.refused(BEYOND, x -> x.now(-1), x -> x.now(LOW));
    }

    static void promise12WhatAbove7IsBeyond() {
        Edges.refused(BEYOND, x -> x.now(8), x -> x.now(HIGH));
    }

    static void promise12AllIs0OfNothing() {
        GoodsUnderWay x = new GoodsUnderWay();
        for (int what = 0; what < 8; what++) {
            Edges.due(0, x.now(what));
        }
    }

    static void promise12ChangesNothing() {
        Edges.keepsAll(x -> x.now(0), x -> x.now(1), x -> x.now(2), x -> x.now(3), x -> x.now(4), x -> x.now(5),
                x -> x.now(6), x -> x.now(7));
    }

    static void promise12SumsAreOfAllTogether() {
        GoodsUnderWay x = Edges.full();
        long stock = 0;
        long way = 0;
        long sent = 0;
        long room = 0;
        x.send(0, 1);
        x.send(2, 3);
        x.send(8, 2);
        for (int i = 0; i < 6; i++) {
            stock += x.of(i, 1);
        }
        for (int i = 0; i < 10; i++) {
            way += x.its(i, 11);
            sent += x.its(i, 10);
            room += x.its(i, 8);
        }
        Edges.due(stock, x.now(1));
        Edges.due(way, x.now(2));
        Edges.due(6, sent);
        Edges.due(6, x.now(4));
        Edges.due(room, x.now(5));
    }

    static void promise12RoomOfAllIsWhateverWasSent() {
        GoodsUnderWay x = Edges.pair(50, 0, 9, 1);
        x.line(1, 0, 1, 8, 1);
        x.send(0, 9);
        Edges.due(17, x.now(5));
        x.go(1);
        Edges.due(9, x.now(5));
    }

    static void promise12StationsThatLoseAreThoseAboveTheirHolds() {
        GoodsUnderWay x = new GoodsUnderWay();
        x.station(0, 999);
        x.station(1, 20);
        x.station(1, 21);
        x.station(2, 21);
        x.station(3, 30);
        x.station(3, 31);
        Edges.due(0b100100, x.now(6));
        Edges.due(2, x.go(1));
        x.set(3, 1, 21);
        x.set(4, 1, 20);
        x.set(5, 1, 21);
        Edges.due(0b101000, x.now(6));
    }

    static void promise12LinesThatAreOpenNeedStock() {
        GoodsUnderWay x = Edges.chain(1, 9, 1);
        Edges.due(0b01, x.now(7));
        x.set(1, 1, 1);
        Edges.due(0b11, x.now(7));
        x.set(0, 1, 0);
        Edges.due(0b10, x.now(7));
    }

    static void promise12LinesThatAreOpenNeedRoom() {
        GoodsUnderWay x = Edges.pair(50, 0, 0, 1);
        x.line(0, 0, 1, 1, 1);
        x.line(3, 0, 1, 1, 1);
        x.line(3, 0, 1, 2, 1);
        x.line(2, 0, 1, 2, 1);
        x.change(4, 5, 1);
        Edges.due(0b01010, x.now(7));
        x.go(1);
        Edges.due(0b10010, x.now(7));
    }

    static void promise12LinesThatAreOpenNeedRoomBesideWhatWasSent() {
        GoodsUnderWay x = Edges.pair(50, 0, 9, 1);
        x.send(0, 8);
        Edges.due(1, x.now(7));
        x.send(0, 1);
        Edges.due(0, x.now(7));
        x.change(0, 3, 3);
        Edges.due(0, x.now(7));
        x.change(0, 3, 10);
        Edges.due(1, x.now(7));
    }

    static void promise12SetsHoldTheFirstOnes() {
        GoodsUnderWay x = new GoodsUnderWay();
        x.station(1, 21);
        x.station(1, 20);
        x.line(0, 0, 1, 1, 1);
        x.line(0, 0, 1, 0, 1);
        Edges.dues(1, x.now(6), x.now(7));
    }

    static void promise12SetsHoldTheLastOnes() {
        GoodsUnderWay x = Edges.yards(6);
        for (int i = 0; i < 10; i++) {
            x.line(0, 5, 0, i == 9 ? 1 : 0, 1);
        }
        x.set(5, 0, 1);
        x.set(5, 1, 21);
        Edges.due(1 << 5, x.now(6));
        Edges.due(1 << 9, x.now(7));
    }

    public static void main(String[] args) throws IllegalAccessException, InvocationTargetException {
        Edges.run(EdgesTicksTest.class, 10, 12);
    }
}
