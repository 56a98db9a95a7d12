import java.lang.reflect.InvocationTargetException;

/** The edges of promises 1 to 9: stations and lines. */
public final class EdgesStationsTest {
    private static final int BEYOND = Check.BEYOND;
    private static final int FULL = Check.FULL;
    private static final int KIND = Check.KIND;
    private static final int LOW = Edges.LOW;
    private static final int HIGH = Edges.HIGH;

    private EdgesStationsTest() { }

    // ---- 1: a new object

    static void promise1NoStationsAtFirst() {
        GoodsUnderWay x = new GoodsUnderWay();
        Edges.dues(0, x.count(1), x.now(1), x.now(6));
        Edges.due(BEYOND, x.of(0, 0));
    }

    static void promise1NoLinesAtFirst() {
        GoodsUnderWay x = new GoodsUnderWay();
        Edges.dues(0, x.count(2), x.now(2), x.now(4), x.now(5), x.now(7));
        Edges.due(BEYOND, x.its(0, 0));
    }

    static void promise1TheTapeIsEmptyAtFirst() {
        GoodsUnderWay x = new GoodsUnderWay();
        Edges.dues(0, x.count(5), x.wipe());
        Edges.due(-1, x.text());
    }

    static void promise1NoImageIsKeptAtFirst() {
        GoodsUnderWay x = new GoodsUnderWay();
        Edges.due(Check.NONE, x.undo());
        Edges.due(0, x.tear());
    }

    static void promise1TickIs0AtFirst() {
        GoodsUnderWay x = new GoodsUnderWay();
        Edges.dues(0, x.count(0), x.now(0));
    }

    static void promise1NothingIsLostAtFirst() {
        GoodsUnderWay x = new GoodsUnderWay();
        Edges.dues(0, x.count(3), x.now(3), x.count(4));
    }

    static void promise1SheetsAreMissingAtFirst() {
        GoodsUnderWay x = new GoodsUnderWay();
        Edges.dues(Check.MISSING, x.write(0, 0, 0), x.write(1, 0, 0), x.write(2, 0, 0), x.write(3, 0, 0));
    }

    static void promise1NoFindingsAtFirst() {
        GoodsUnderWay x = new GoodsUnderWay();
        for (int i = -1; i < 8; i++) {
            Edges.due(0, x.status(i));
        }
    }

    static void promise1ObjectsAreApart() {
        GoodsUnderWay x = new GoodsUnderWay();
        GoodsUnderWay rich = Edges.rich();
        rich.go(3);
        rich.go(0);
        Edges.alike(x, new GoodsUnderWay());
    }

    // ---- 2: station

    static void promise2KindBelow0IsBeyond() {
        Edges.refused(BEYOND, x -> x.station(-1, 5), x -> x.station(LOW, 5));
    }

    static void promise2KindAbove3IsBeyond() {
        Edges.refused(BEYOND, x -> x.station(4, 5), x -> x.station(HIGH, 5));
    }

    static void promise2StockBelow0IsBeyond() {
        Edges.refused(BEYOND, x -> x.station(0, -1), x -> x.station(3, LOW));
    }

    static void promise2StockAbove999IsBeyond() {
        Edges.refused(BEYOND, x -> x.station(0, 1000), x -> x.station(3, HIGH));
    }

    static void promise2KindsAre0To3() {
        GoodsUnderWay x = new GoodsUnderWay();
        for (int kind = 0; kind < 4; kind++) {
            Edges.due(kind, x.station(kind, 1));
            Edges.due(kind, x.of(kind, 0));
        }
    }

    static void promise2StockIs0To999() {
        GoodsUnderWay x = new GoodsUnderWay();
        Edges.due(0, x.station(0, 0));
        Edges.due(1, x.station(0, 999));
        Edges.due(0, x.of(0, 1));
        Edges.due(999, x.of(1, 1));
    }

    static void promise2SixAreTheMost() {
        GoodsUnderWay x = new GoodsUnderWay();
        for (int i = 0; i < 6; i++) {
            Edges.due(i, x.station(i % 4, i));
        }
        Edges.due(FULL, x.station(0, 0));
        Edges.due(6, x.count(1));
    }

    static void promise2ASeventhIsFull() {
        Edges.refusedBy(Edges::full, FULL, x -> x.station(0, 0), x -> x.station(3, 999));
    }

    static void promise2BeyondIsAskedAheadOfFull() {
        Edges.refusedBy(Edges::full, BEYOND, x -> x.station(4, 0), x -> x.station(-1, 0), x -> x.station(0, 1000),
                x -> x.station(0, -1));
    }

    static void promise2ARefusedOneTakesNoNumber() {
        GoodsUnderWay x = new GoodsUnderWay();
        x.station(0, 1000);
        x.station(4, 0);
        Edges.due(0, x.station(0, 7));
        x.station(-1, 0);
        Edges.due(1, x.station(0, 8));
        Edges.due(8, x.of(1, 1));
    }

    static void promise2StoreIs20AtFirst() {
        GoodsUnderWay x = new GoodsUnderWay();
        for (int kind = 0; kind < 4; kind++) {
            x.station(kind, 5);
            Edges.due(20, x.of(kind, 2));
        }
    }

    static void promise2IsNewWhereAnUndoneOneWas() {
        GoodsUnderWay x = new GoodsUnderWay();
        x.image();
        x.station(3, 50);
        x.set(0, 2, 99);
        x.undo();
        Edges.due(0, x.station(1, 4));
        Edges.row("of", Edges.is(1, 4, 20, 20, 0), Edges.of(x, 0, 5));
    }

    static void promise2FullEndsWithUndo() {
        GoodsUnderWay x = Edges.yards(5);
        x.image();
        x.station(0, 0);
        Edges.due(FULL, x.station(0, 0));
        x.undo();
        Edges.due(5, x.station(0, 0));
    }

    // ---- 3: line

    static void promise3KindBelow0IsBeyond() {
        Edges.refused(BEYOND, x -> x.line(-1, 0, 1, 1, 1), x -> x.line(LOW, 0, 1, 1, 1));
    }

    static void promise3KindAbove5IsBeyond() {
        Edges.refused(BEYOND, x -> x.line(6, 0, 1, 1, 1), x -> x.line(HIGH, 0, 1, 1, 1));
    }

    static void promise3FromNoStationIsBeyond() {
        Edges.refused(BEYOND, x -> x.line(0, -1, 1, 1, 1), x -> x.line(0, 4, 1, 1, 1), x -> x.line(0, LOW, 1, 1, 1),
                x -> x.line(0, HIGH, 1, 1, 1));
    }

    static void promise3ToNoStationIsBeyond() {
        Edges.refused(BEYOND, x -> x.line(0, 0, -1, 1, 1), x -> x.line(0, 0, 4, 1, 1), x -> x.line(0, 0, LOW, 1, 1),
                x -> x.line(0, 0, HIGH, 1, 1));
    }

    static void promise3FromAndToTheSameIsBeyond() {
        Edges.refused(BEYOND, x -> x.line(0, 0, 0, 1, 1), x -> x.line(5, 3, 3, 1, 1));
    }

    static void promise3WithoutStationsAllIsBeyond() {
        Edges.refusedBy(GoodsUnderWay::new, BEYOND, x -> x.line(0, 0, 1, 1, 1), x -> x.line(0, 0, 0, 1, 1));
        Edges.refusedBy(() -> Edges.yards(1), BEYOND, x -> x.line(0, 0, 1, 1, 1), x -> x.line(0, 0, 0, 1, 1));
    }

    static void promise3WideBelow0IsBeyond() {
        Edges.refused(BEYOND, x -> x.line(0, 0, 1, -1, 1), x -> x.line(0, 0, 1, LOW, 1));
    }

    static void promise3WideAbove99IsBeyond() {
        Edges.refused(BEYOND, x -> x.line(0, 0, 1, 100, 1), x -> x.line(0, 0, 1, HIGH, 1));
    }

    static void promise3LengthBelow1IsBeyond() {
        Edges.refused(BEYOND, x -> x.line(0, 0, 1, 1, 0), x -> x.line(0, 0, 1, 1, LOW));
    }

    static void promise3LengthAbove9IsBeyond() {
        Edges.refused(BEYOND, x -> x.line(0, 0, 1, 1, 10), x -> x.line(0, 0, 1, 1, HIGH));
    }

    static void promise3KindsAre0To5() {
        GoodsUnderWay x = Edges.yards(2);
        for (int kind = 0; kind < 6; kind++) {
            Edges.due(kind, x.line(kind, 0, 1, 1, 1));
            Edges.due(kind, x.its(kind, 0));
        }
    }

    static void promise3LeastAndGreatestOfAllStand() {
        GoodsUnderWay x = Edges.yards(6);
        Edges.due(0, x.line(0, 0, 5, 0, 1));
        Edges.due(1, x.line(5, 5, 0, 99, 9));
        Edges.row("its", Edges.is(0, 0, 5, 0, 1), Edges.its(x, 0, 5));
        Edges.row("its", Edges.is(5, 5, 0, 99, 9), Edges.its(x, 1, 5));
    }

    static void promise3TenAreTheMost() {
        GoodsUnderWay x = Edges.yards(2);
        for (int i = 0; i < 10; i++) {
            Edges.due(i, x.line(0, i % 2, 1 - i % 2, i, 1));
        }
        Edges.due(FULL, x.line(0, 0, 1, 1, 1));
        Edges.due(10, x.count(2));
    }

    static void promise3AnEleventhIsFull() {
        Edges.refusedBy(Edges::full, FULL, x -> x.line(0, 0, 1, 1, 1), x -> x.line(5, 5, 0, 99, 9));
    }

    static void promise3BeyondIsAskedAheadOfFull() {
        Edges.refusedBy(Edges::full, BEYOND, x -> x.line(6, 0, 1, 1, 1), x -> x.line(0, 6, 1, 1, 1),
                x -> x.line(0, 0, 6, 1, 1), x -> x.line(0, 1, 1, 1, 1), x -> x.line(0, 0, 1, 100, 1),
                x -> x.line(0, 0, 1, 1, 10), x -> x.line(0, 0, 1, 1, 0));
    }

    static void promise3ARefusedOneTakesNoNumber() {
        GoodsUnderWay x = Edges.yards(2);
        x.line(0, 0, 1, 100, 1);
        Edges.due(0, x.line(1, 0, 1, 7, 1));
        x.line(0, 0, 0, 1, 1);
        Edges.due(1, x.line(2, 0, 1, 8, 1));
        Edges.due(8, x.its(1, 3));
    }

    static void promise3TideLaterShiftSentAtFirst() {
        GoodsUnderWay x = Edges.yards(2);
        for (int kind = 0; kind < 6; kind++) {
            x.line(kind, 0, 1, 5, 6);
            Edges.dues(0, x.its(kind, 5), x.its(kind, 6), x.its(kind, 10), x.its(kind, 11));
            Edges.due(99999, x.its(kind, 7));
        }
    }

    static void promise3IsNewWhereAnUndoneOneWas() {
        GoodsUnderWay x = Edges.yards(2);
        x.set(0, 1, 9);
        x.image();
        x.line(0, 0, 1, 9, 9);
        x.change(0, 5, 2);
        x.change(0, 6, 3);
        x.change(0, 7, 4);
        x.send(0, 5);
        x.undo();
        Edges.due(0, x.line(1, 1, 0, 8, 2));
        Edges.row("its", Edges.is(1, 1, 0, 8, 2, 0, 0, 99999, 8, 1, 0, 0), Edges.its(x, 0, 12));
        x.go(20);
        Edges.due(0, x.of(1, 1));
        Edges.due(9, x.of(0, 1));
    }

    // ---- 4: of

    static void promise4NoSuchStationIsBeyond() {
        Edges.refused(BEYOND, x -> x.of(-1, 0), x -> x.of(4, 0), x -> x.of(LOW, 1), x -> x.of(HIGH, 4));
    }

    static void promise4WhatBelow0IsBeyond() {
        Edges.refused(BEYOND, x -> x.of(0, -1), x -> x.of(0, LOW));
    }

    static void promise4WhatAbove4IsBeyond() {
        Edges.refused(BEYOND, x -> x.of(0, 5), x -> x.of(3, HIGH));
    }

    static void promise4ChangesNothing() {
        Edges.keepsAll(x -> x.of(0, 0), x -> x.of(1, 1), x -> x.of(2, 2), x -> x.of(3, 3), x -> x.of(3, 4));
    }

    private static long[] holds(int kind, int store, int ticks) {
        GoodsUnderWay x = new GoodsUnderWay();
        x.station(kind, 0);
        x.set(0, 2, store);
        long[] row = new long[ticks];
        for (int t = 0; t < ticks; t++) {
            row[t] = x.of(0, 3);
            x.go(1);
        }
        return row;
    }

    static void promise4AYardHolds99999() {
        Edges.row("holds", Edges.is(99999, 99999, 99999, 99999), holds(0, 0, 4));
        Edges.row("holds", Edges.is(99999, 99999, 99999, 99999), holds(0, 99, 4));
    }

    static void promise4AShedHoldsItsStore() {
        Edges.row("holds", Edges.is(0, 0, 0, 0, 0, 0, 0), holds(1, 0, 7));
        Edges.row("holds", Edges.is(99, 99, 99, 99, 99, 99, 99), holds(1, 99, 7));
    }

    static void promise4AQuayHoldsAsAYardInEvenTicks() {
        Edges.row("holds", Edges.is(99999, 0, 99999, 0, 99999), holds(2, 0, 5));
        Edges.row("holds", Edges.is(99999, 99, 99999, 99, 99999), holds(2, 99, 5));
    }

    static void promise4AVaultHolds10MoreInMultiplesOf3() {
        Edges.row("holds", Edges.is(10, 0, 0, 10, 0, 0, 10, 0), holds(3, 0, 8));
        Edges.row("holds", Edges.is(109, 99, 99, 109, 99, 99, 109, 99), holds(3, 99, 8));
    }

    static void promise4HoldsAreByTheKindThatItIs() {
        GoodsUnderWay x = Edges.yards(1);
        x.set(0, 0, 3);
        Edges.due(30, x.of(0, 3));
        x.set(0, 0, 1);
        Edges.due(20, x.of(0, 3));
        x.set(0, 0, 2);
        Edges.due(99999, x.of(0, 3));
    }

    static void promise4NothingComesWithoutGoodsUnderWay() {
        GoodsUnderWay x = Edges.chain(50, 9, 2);
        Edges.dues(0, x.of(0, 4), x.of(1, 4), x.of(2, 4));
        x.send(0, 0);
        Edges.due(0, x.of(1, 4));
    }

    static void promise4WhatComesIsOfAllLinesAndTicks() {
        GoodsUnderWay x = Edges.chain(50, 9, 3);
        x.line(0, 0, 1, 9, 9);
        x.send(0, 1);
        x.send(2, 2);
        x.go(1);
        x.send(0, 3);
        x.send(2, 4);
        Edges.due(10, x.of(1, 4));
        Edges.dues(0, x.of(0, 4), x.of(2, 4));
        x.go(2);
        Edges.due(9, x.of(1, 4));
        x.go(1);
        Edges.due(6, x.of(1, 4));
        x.go(6);
        Edges.due(0, x.of(1, 4));
    }

    static void promise4WhatComesIsByLinesAsTheyAre() {
        GoodsUnderWay x = Edges.chain(50, 9, 3);
        x.send(0, 7);
        x.change(0, 2, 2);
        Edges.due(0, x.of(1, 4));
        Edges.due(7, x.of(2, 4));
        x.change(0, 0, 3);
        x.change(0, 4, 9);
        x.change(0, 3, 0);
        Edges.due(7, x.of(2, 4));
    }

    static void promise4StockMayBeAbove999() {
        GoodsUnderWay x = Edges.pair(99, 0, 99, 1);
        x.set(1, 1, 999);
        x.send(0, 99);
        x.go(1);
        Edges.due(1098, x.of(1, 1));
    }

    // ---- 5: its

    static void promise5NoSuchLineIsBeyond() {
        Edges.refused(BEYOND, x -> x.its(-1, 0), x -> x.its(5, 0), x -> x.its(LOW, 8), x -> x.its(HIGH, 11));
    }

    static void promise5WhatBelow0IsBeyond() {
        Edges.refused(BEYOND, x -> x.its(0, -1), x -> x.its(0, LOW));
    }

    static void promise5WhatAbove11IsBeyond() {
        Edges.refused(BEYOND, x -> x.its(0, 12), x -> x.its(4, HIGH));
    }

    static void promise5ChangesNothing() {
        Edges.keepsAll(x -> x.its(0, 0), x -> x.its(1, 7), x -> x.its(2, 8), x -> x.its(3, 9), x -> x.its(0, 10),
                x -> x.its(0, 11));
    }

    /** Room of a line, tick by tick; settings from TIDE on: tide, later, shift. */
    private static long[] rooms(int kind, int wide, int length, int[] settings, int ticks) {
        GoodsUnderWay x = Edges.pair(0, kind, wide, length);
        for (int i = 0; i < 3; i++) {
            x.change(0, 5 + i, settings[i]);
        }
        long[] row = new long[ticks];
        for (int t = 0; t < ticks; t++) {
            row[t] = x.its(0, 8);
            x.go(1);
        }
        return row;
    }

    private static int[] by(int tide, int later, int shift) {
        return new int[] {tide, later, shift};
    }

    static void promise5RoomIsLaterFromShiftOn() {
        Edges.row("room", Edges.is(7, 7, 7, 4, 4), rooms(0, 7, 5, by(3, 4, 3), 5));
        Edges.row("room", Edges.is(7, 99, 99), rooms(0, 7, 5, by(3, 99, 1), 3));
        Edges.row("room", Edges.is(4, 4), rooms(0, 7, 5, by(3, 4, 0), 2));
    }

    static void promise5RoomMayBe0() {
        Edges.row("room", Edges.is(0, 0, 0, 0), rooms(0, 0, 5, by(0, 0, 2), 4));
        Edges.row("room", Edges.is(0, 0, 0, 0), rooms(4, 0, 5, by(0, 0, 2), 4));
        Edges.row("room", Edges.is(0, 0, 0, 0), rooms(5, 0, 5, by(0, 0, 2), 4));
        Edges.row("room", Edges.is(9, 9, 0, 0), rooms(0, 9, 5, by(0, 0, 2), 4));
    }

    static void promise5RoomOfARailIs0InOddTicks() {
        Edges.row("room", Edges.is(7, 0, 7, 0, 4, 0), rooms(1, 7, 5, by(3, 4, 3), 6));
    }

    static void promise5RoomOfAnExpressIsHalfOfARailsCut() {
        Edges.row("room", Edges.is(3, 0, 3, 0, 2, 0), rooms(3, 7, 5, by(3, 5, 3), 6));
        Edges.row("room", Edges.is(0, 0, 0, 0, 49, 0), rooms(3, 1, 5, by(3, 99, 3), 6));
        Edges.row("room", Edges.is(1, 0, 1, 0, 0, 0), rooms(3, 2, 5, by(3, 0, 3), 6));
    }

    static void promise5RoomOfAFerryIs0BelowItsTide() {
        Edges.row("room", Edges.is(0, 0, 7, 7, 7, 7, 0, 0, 4), rooms(2, 7, 5, by(2, 4, 6), 9));
        Edges.row("room", Edges.is(0, 7, 7, 7, 7, 7, 0, 7), rooms(2, 7, 5, by(1, 4, 99), 8));
        Edges.row("room", Edges.is(0, 0, 0, 0, 0, 7, 0), rooms(2, 7, 5, by(5, 4, 99), 7));
        Edges.row("room", Edges.is(7, 7, 7, 7, 7, 7, 7), rooms(2, 7, 5, by(0, 4, 99), 7));
    }

    static void promise5RoomOfABargeIsThriceAFerrys() {
        Edges.row("room", Edges.is(0, 0, 21, 21, 21, 297, 0, 0, 297), rooms(4, 7, 5, by(2, 99, 5), 9));
        Edges.row("room", Edges.is(297, 3), rooms(4, 99, 5, by(0, 1, 1), 2));
    }

    static void promise5RoomOfAPassIsTwiceIfLengthIsAbove4() {
        Edges.row("room", Edges.is(7, 7, 4), rooms(5, 7, 4, by(3, 4, 2), 3));
        Edges.row("room", Edges.is(14, 14, 8), rooms(5, 7, 5, by(3, 4, 2), 3));
        Edges.row("room", Edges.is(198, 198, 2), rooms(5, 99, 9, by(3, 1, 2), 3));
        Edges.row("room", Edges.is(99, 99, 1), rooms(5, 99, 1, by(3, 1, 2), 3));
    }

    static void promise5LengthAbove4MattersToAPassAlone() {
        int[] rooms = {7, 7, 7, 3, 21, 14};
        for (int kind = 0; kind < 6; kind++) {
            Edges.row("room", Edges.is(rooms[kind]), rooms(kind, 7, 5, by(0, 0, 9), 1));
        }
    }

    static void promise5TideMattersToFerriesAlone() {
        int[] rooms = {7, 7, 0, 3, 0, 7};
        for (int kind = 0; kind < 6; kind++) {
            Edges.row("room", Edges.is(rooms[kind]), rooms(kind, 7, 4, by(5, 0, 9), 1));
        }
    }

    static void promise5RoomIsWhateverWasSent() {
        GoodsUnderWay x = Edges.pair(50, 0, 9, 1);
        x.send(0, 9);
        Edges.due(9, x.its(0, 8));
    }

    /** Takes of a line of a kind, with lengths 1 to 9. */
    private static long[] takes(int kind, int tide) {
        GoodsUnderWay x = Edges.pair(0, kind, 1, 1);
        x.change(0, 5, tide);
        long[] row = new long[9];
        for (int length = 1; length < 10; length++) {
            x.change(0, 4, length);
            row[length - 1] = x.its(0, 9);
        }
        return row;
    }

    static void promise5ARoadTakesItsLength() {
        Edges.row("takes", Edges.is(1, 2, 3, 4, 5, 6, 7, 8, 9), takes(0, 5));
    }

    static void promise5ARailTakesHalfCutBut1AtLeast() {
        Edges.row("takes", Edges.is(1, 1, 1, 2, 2, 3, 3, 4, 4), takes(1, 5));
    }

    static void promise5AnExpressTakes1() {
        Edges.row("takes", Edges.is(1, 1, 1, 1, 1, 1, 1, 1, 1), takes(3, 5));
    }

    static void promise5AFerryTakes1More() {
        Edges.row("takes", Edges.is(2, 3, 4, 5, 6, 7, 8, 9, 10), takes(2, 5));
    }

    static void promise5ABargeTakesItsTideMore() {
        Edges.row("takes", Edges.is(2, 3, 4, 5, 6, 7, 8, 9, 10), takes(4, 0));
        Edges.row("takes", Edges.is(7, 8, 9, 10, 11, 12, 13, 14, 15), takes(4, 5));
    }

    static void promise5APassTakesItsLength() {
        Edges.row("takes", Edges.is(1, 2, 3, 4, 5, 6, 7, 8, 9), takes(5, 5));
    }

    static void promise5SentIs0InTheNextTick() {
        GoodsUnderWay x = Edges.pair(50, 0, 9, 9);
        Edges.due(0, x.its(0, 10));
        x.send(0, 2);
        x.send(0, 3);
        Edges.due(5, x.its(0, 10));
        x.go(1);
        Edges.due(0, x.its(0, 10));
    }

    static void promise5OnTheWayIsOfAllTicks() {
        GoodsUnderWay x = Edges.pair(50, 0, 9, 2);
        x.line(0, 0, 1, 9, 2);
        x.send(0, 2);
        x.send(0, 3);
        x.send(1, 7);
        x.go(1);
        x.send(0, 1);
        Edges.due(6, x.its(0, 11));
        Edges.due(7, x.its(1, 11));
        x.go(1);
        Edges.due(1, x.its(0, 11));
        Edges.due(0, x.its(1, 11));
        x.go(1);
        Edges.due(0, x.its(0, 11));
    }

    static void promise5OnTheWayStaysWithTheLine() {
        GoodsUnderWay x = Edges.chain(50, 9, 3);
        x.send(0, 4);
        x.change(0, 2, 2);
        x.change(0, 1, 1);
        Edges.due(4, x.its(0, 11));
        Edges.due(0, x.its(1, 11));
    }

    // ---- 6: set

    static void promise6NoSuchStationIsBeyond() {
        Edges.refused(BEYOND, x -> x.set(-1, 0, 0), x -> x.set(4, 1, 0), x -> x.set(LOW, 2, 0), x -> x.set(HIGH, 2, 0));
    }

    static void promise6WhatBelow0IsBeyond() {
        Edges.refused(BEYOND, x -> x.set(0, -1, 0), x -> x.set(0, LOW, 0));
    }

    static void promise6WhatAbove2IsBeyond() {
        Edges.refused(BEYOND, x -> x.set(0, 3, 0), x -> x.set(0, 4, 0), x -> x.set(0, HIGH, 0));
    }

    static void promise6KindBelow0OrAbove3IsBeyond() {
        Edges.refused(BEYOND, x -> x.set(0, 0, -1), x -> x.set(0, 0, 4), x -> x.set(0, 0, LOW), x -> x.set(0, 0, HIGH));
    }

    static void promise6StockBelow0OrAbove999IsBeyond() {
        Edges.refused(BEYOND, x -> x.set(0, 1, -1), x -> x.set(0, 1, 1000), x -> x.set(0, 1, LOW), x -> x.set(0, 1, HIGH));
    }

    static void promise6StoreBelow0OrAbove99IsBeyond() {
        Edges.refused(BEYOND, x -> x.set(0, 2, -1), x -> x.set(0, 2, 100), x -> x.set(0, 2, LOW), x -> x.set(0, 2, HIGH));
    }

    static void promise6LeastAndGreatestStand() {
        GoodsUnderWay x = Edges.yards(1);
        Edges.due(0, x.set(0, 0, 3));
        Edges.due(3, x.set(0, 0, 0));
        Edges.due(0, x.set(0, 1, 999));
        Edges.due(999, x.set(0, 1, 0));
        Edges.due(20, x.set(0, 2, 99));
        Edges.due(99, x.set(0, 2, 0));
        Edges.row("of", Edges.is(0, 0, 0), Edges.of(x, 0, 3));
    }

    static void promise6WhatItWasMayBeAbove999() {
        GoodsUnderWay x = Edges.pair(99, 0, 99, 1);
        x.set(1, 1, 999);
        x.send(0, 99);
        x.go(1);
        Edges.due(1098, x.set(1, 1, 3));
        Edges.due(3, x.of(1, 1));
    }

    static void promise6TheSameAgainIsFine() {
        GoodsUnderWay x = Edges.rich();
        Edges.due(1, x.set(1, 0, 1));
        Edges.due(20, x.set(1, 2, 20));
        Edges.alike(x, Edges.rich());
    }

    static void promise6IsOfOneStationAlone() {
        GoodsUnderWay x = Edges.yards(3);
        x.set(1, 0, 1);
        x.set(1, 1, 5);
        x.set(1, 2, 6);
        Edges.row("of", Edges.is(0, 0, 20), Edges.of(x, 0, 3));
        Edges.row("of", Edges.is(1, 5, 6), Edges.of(x, 1, 3));
        Edges.row("of", Edges.is(0, 0, 20), Edges.of(x, 2, 3));
    }

    // ---- 7: change

    static void promise7NoSuchLineIsBeyond() {
        Edges.refused(BEYOND, x -> x.change(-1, 3, 1), x -> x.change(5, 3, 1), x -> x.change(LOW, 3, 1),
                x -> x.change(HIGH, 3, 1));
    }

    static void promise7WhatBelow0IsBeyond() {
        Edges.refused(BEYOND, x -> x.change(0, -1, 1), x -> x.change(0, LOW, 1));
    }

    static void promise7WhatAbove7IsBeyond() {
        Edges.refused(BEYOND, x -> x.change(0, 8, 1), x -> x.change(0, 9, 1), x -> x.change(0, 10, 1),
                x -> x.change(0, HIGH, 1));
    }

    static void promise7KindBelow0OrAbove5IsBeyond() {
        Edges.refused(BEYOND, x -> x.change(0, 0, -1), x -> x.change(0, 0, 6), x -> x.change(0, 0, LOW),
                x -> x.change(0, 0, HIGH));
    }

    static void promise7FromNoStationIsBeyond() {
        Edges.refused(BEYOND, x -> x.change(0, 1, -1), x -> x.change(0, 1, 4), x -> x.change(0, 1, LOW),
                x -> x.change(0, 1, HIGH));
    }

    static void promise7ToNoStationIsBeyond() {
        Edges.refused(BEYOND, x -> x.change(0, 2, -1), x -> x.change(0, 2, 4), x -> x.change(0, 2, LOW),
                x -> x.change(0, 2, HIGH));
    }

    static void promise7FromAndToAreNeverTheSame() {
        Edges.refused(BEYOND, x -> x.change(0, 1, 1), x -> x.change(0, 2, 0), x -> x.change(4, 1, 0),
                x -> x.change(4, 2, 3));
    }

    static void promise7WidthBelow0OrAbove99IsBeyond() {
        Edges.refused(BEYOND, x -> x.change(0, 3, -1), x -> x.change(0, 3, 100), x -> x.change(0, 3, LOW),
                x -> x.change(0, 3, HIGH));
    }

    static void promise7LengthBelow1OrAbove9IsBeyond() {
        Edges.refused(BEYOND, x -> x.change(0, 4, 0), x -> x.change(0, 4, 10), x -> x.change(0, 4, LOW),
                x -> x.change(0, 4, HIGH));
    }

    static void promise7TideBelow0OrAbove5IsBeyond() {
        Edges.refused(BEYOND, x -> x.change(0, 5, -1), x -> x.change(0, 5, 6), x -> x.change(0, 5, LOW),
                x -> x.change(0, 5, HIGH));
    }

    static void promise7LaterBelow0OrAbove99IsBeyond() {
        Edges.refused(BEYOND, x -> x.change(0, 6, -1), x -> x.change(0, 6, 100), x -> x.change(0, 6, LOW),
                x -> x.change(0, 6, HIGH));
    }

    static void promise7ShiftBelow0OrAbove99999IsBeyond() {
        Edges.refused(BEYOND, x -> x.change(0, 7, -1), x -> x.change(0, 7, 100000), x -> x.change(0, 7, LOW),
                x -> x.change(0, 7, HIGH));
    }

    static void promise7LeastAndGreatestStand() {
        int[] least = {0, 0, 0, 0, 1, 0, 0, 0};
        int[] greatest = {5, 5, 5, 99, 9, 5, 99, 99999};
        for (int what = 0; what < 8; what++) {
            GoodsUnderWay x = Edges.yards(6);
            x.line(2, 2, 3, 50, 5);
            x.change(0, 5, 3);
            x.change(0, 6, 60);
            x.change(0, 7, 70);
            int was = x.its(0, what);
            Edges.due(was, x.change(0, what, least[what]));
            Edges.due(least[what], x.change(0, what, greatest[what]));
            Edges.due(greatest[what], x.its(0, what));
        }
    }

    static void promise7TheSameAgainIsFine() {
        GoodsUnderWay x = Edges.rich();
        for (int what = 0; what < 8; what++) {
            int is = x.its(0, what);
            Edges.due(is, x.change(0, what, is));
        }
        Edges.alike(x, Edges.rich());
    }

    static void promise7IsOfOneLineAlone() {
        GoodsUnderWay x = Edges.yards(4);
        for (int i = 0; i < 3; i++) {
            x.line(0, 0, 1, 5, 5);
        }
        int[] become = {4, 2, 3, 6, 7, 1, 8, 9};
        for (int what = 0; what < 8; what++) {
            x.change(1, what, become[what]);
        }
        Edges.row("its", Edges.is(0, 0, 1, 5, 5, 0, 0, 99999), Edges.its(x, 0, 8));
        Edges.row("its", Edges.is(4, 2, 3, 6, 7, 1, 8, 9), Edges.its(x, 1, 8));
        Edges.row("its", Edges.is(0, 0, 1, 5, 5, 0, 0, 99999), Edges.its(x, 2, 8));
    }

    static void promise7GoodsUnderWayComeAtTheTickToldWhenSent() {
        GoodsUnderWay x = Edges.pair(50, 0, 9, 3);
        x.send(0, 4);
        x.change(0, 4, 9);
        x.change(0, 0, 4);
        x.change(0, 5, 5);
        x.go(2);
        Edges.due(0, x.of(1, 1));
        x.go(1);
        Edges.due(4, x.of(1, 1));
    }

    // ---- 8: as

    static void promise8NoSuchLineIsBeyond() {
        Edges.refused(BEYOND, x -> x.as(-1, 0), x -> x.as(5, 0), x -> x.as(LOW, 0), x -> x.as(HIGH, 0));
    }

    static void promise8NoSuchKindIsBeyond() {
        Edges.refused(BEYOND, x -> x.as(0, -1), x -> x.as(0, 6), x -> x.as(0, LOW), x -> x.as(0, HIGH));
    }

    /** The kinds that a line of each kind is, itself and those above it, as a set. */
    private static final int[] LINE_IS = {0b000001, 0b000011, 0b000101, 0b001011, 0b010101, 0b100001};

    static void promise8AnotherKindIsKind() {
        for (int is = 0; is < 6; is++) {
            for (int asked = 0; asked < 6; asked++) {
                int kind = is;
                int as = asked;
                if ((LINE_IS[is] >> asked & 1) == 0) {
                    Edges.refusedBy(() -> Edges.pair(5, kind, 7, 1), KIND, x -> x.as(0, as));
                }
            }
        }
    }

    static void promise8ItsOwnKindAndThoseAboveAreFine() {
        for (int is = 0; is < 6; is++) {
            for (int asked = 0; asked < 6; asked++) {
                if ((LINE_IS[is] >> asked & 1) == 1) {
                    Edges.due(7, Edges.pair(5, is, 7, 1).as(0, asked));
                }
            }
        }
    }

    static void promise8ItIsByTheKindThatItIs() {
        GoodsUnderWay x = Edges.pair(5, 0, 0, 1);
        Edges.due(KIND, x.as(0, 3));
        x.change(0, 0, 3);
        Edges.due(0, x.as(0, 3));
        x.change(0, 3, 99);
        Edges.due(99, x.as(0, 1));
        Edges.due(KIND, x.as(0, 2));
    }

    static void promise8ChangesNothing() {
        Edges.keepsAll(x -> x.as(0, 0), x -> x.as(1, 1), x -> x.as(3, 2), x -> x.as(4, 5));
    }

    // ---- 9: stands

    static void promise9NoSuchStationIsBeyond() {
        Edges.refused(BEYOND, x -> x.stands(-1, 0), x -> x.stands(4, 0), x -> x.stands(LOW, 0), x -> x.stands(HIGH, 0));
    }

    static void promise9NoSuchKindIsBeyond() {
        Edges.refused(BEYOND, x -> x.stands(0, -1), x -> x.stands(0, 4), x -> x.stands(0, LOW), x -> x.stands(0, HIGH));
    }

    /** The kinds that a station of each kind is, itself and those above it, as a set. */
    private static final int[] STATION_IS = {0b0001, 0b0011, 0b0101, 0b1011};

    private static GoodsUnderWay one(int kind) {
        GoodsUnderWay x = new GoodsUnderWay();
        x.station(kind, 5);
        x.set(0, 2, 33);
        return x;
    }

    static void promise9AnotherKindIsKind() {
        for (int is = 0; is < 4; is++) {
            for (int asked = 0; asked < 4; asked++) {
                int kind = is;
                int as = asked;
                if ((STATION_IS[is] >> asked & 1) == 0) {
                    Edges.refusedBy(() -> one(kind), KIND, x -> x.stands(0, as));
                }
            }
        }
    }

    static void promise9ItsOwnKindAndThoseAboveAreFine() {
        for (int is = 0; is < 4; is++) {
            for (int asked = 0; asked < 4; asked++) {
                if ((STATION_IS[is] >> asked & 1) == 1) {
                    Edges.due(33, one(is).stands(0, asked));
                }
            }
        }
    }

    static void promise9ItIsByTheKindThatItIs() {
        GoodsUnderWay x = one(0);
        Edges.due(KIND, x.stands(0, 1));
        x.set(0, 0, 3);
        Edges.due(33, x.stands(0, 1));
        x.set(0, 2, 0);
        Edges.due(0, x.stands(0, 3));
        Edges.due(KIND, x.stands(0, 2));
    }

    static void promise9ChangesNothing() {
        Edges.keepsAll(x -> x.stands(0, 0), x -> x.stands(1, 1), x -> x.stands(2, 2), x -> x.stands(3, 1));
    }

    public static void main(String[] args) throws IllegalAccessException, InvocationTargetException {
        Edges.run(EdgesStationsTest.class, 1, 9);
    }
}
