import java.lang.reflect.InvocationTargetException;

/** The edges of promises 18 to 23: which way is best. */
public final class EdgesWhichIsBestTest {
    private static final int BEYOND = Check.BEYOND;
    private static final int NONE = Check.NONE;
    private static final int LOW = Edges.LOW;
    private static final int HIGH = Edges.HIGH;

    private EdgesWhichIsBestTest() { }

    /** Yard 0 with goods, yard 1; a road 0 to 1 of one tick for each width. */
    private static GoodsUnderWay roads(int stock, int... widths) {
        GoodsUnderWay x = new GoodsUnderWay();
        x.station(0, stock);
        x.station(0, 0);
        for (int wide : widths) {
            x.line(0, 0, 1, wide, 1);
        }
        return x;
    }

    // ---- 18: lose

    static void promise18NoSuchStationIsBeyond() {
        Edges.refused(BEYOND, x -> x.lose(-1, 3), x -> x.lose(4, 3), x -> x.lose(LOW, 3), x -> x.lose(HIGH, 3));
    }

    static void promise18NBelow0OrAbove24IsBeyond() {
        Edges.refused(BEYOND, x -> x.lose(0, -1), x -> x.lose(0, 25), x -> x.lose(0, LOW), x -> x.lose(0, HIGH));
    }

    static void promise18WithoutLinesIsNone() {
        Edges.refusedBy(() -> Edges.yards(2), NONE, x -> x.lose(0, 0), x -> x.lose(1, 24));
    }

    static void promise18BeyondIsAskedAheadOfNone() {
        Edges.refusedBy(GoodsUnderWay::new, BEYOND, x -> x.lose(0, 0));
        Edges.refusedBy(() -> Edges.yards(2), BEYOND, x -> x.lose(2, 0), x -> x.lose(0, 25), x -> x.lose(0, -1));
    }

    static void promise18ChangesNothing() {
        Edges.keepsAll(x -> x.lose(0, 0), x -> x.lose(3, 9), x -> x.lose(1, 24));
    }

    static void promise18OfSeveralTheLeastNumberCounts() {
        Edges.due(1, roads(99, 2, 3, 3).lose(1, 4));
        Edges.due(0, roads(99, 3, 3, 3).lose(1, 4));
        Edges.due(2, roads(99, 2, 2, 3).lose(1, 4));
    }

    static void promise18WhereNoneIsMissedItIsTheFirst() {
        Edges.due(0, roads(99, 2, 3).lose(1, 0));
        Edges.due(0, roads(99, 2, 3).lose(0, 24));
        Edges.due(0, roads(0, 2, 3).lose(1, 24));
        Edges.due(0, roads(4, 0, 5, 5).lose(1, 24));
    }

    static void promise18TheOnlyOneIsIt() {
        Edges.due(0, roads(99, 2).lose(1, 4));
        Edges.due(0, roads(99, 0).lose(1, 4));
    }

    static void promise18WhatIsOnTheWayStillComes() {
        GoodsUnderWay x = roads(99, 9, 2);
        x.send(0, 9);
        Edges.due(1, x.lose(1, 1));
        Edges.due(0, x.lose(1, 2));
    }

    static void promise18ItHasNoRoomInAnyTick() {
        GoodsUnderWay x = roads(99, 4, 3);
        x.change(0, 7, 1);
        Edges.due(0, x.lose(1, 1));
        Edges.due(1, x.lose(1, 2));
        x.change(0, 6, 9);
        Edges.due(0, x.lose(1, 2));
    }

    /** Not 1 either: the one that is wide for a tick is missed less than the one that is open for three. */
    static void promise18ItHasNoRoomAtAll() {
        GoodsUnderWay x = roads(99, 5, 2);
        x.change(0, 4, 3);
        Edges.due(1, x.lose(1, 3));
        Edges.due(1, roads(99, 0, 1).lose(1, 1));
    }

    static void promise18TheLastLineMayBeIt() {
        Edges.due(9, roads(999, 1, 1, 1, 1, 1, 1, 1, 1, 1, 2).lose(1, 24));
    }

    // ---- 19: widen

    static void promise19NoSuchStationIsBeyond() {
        Edges.refused(BEYOND, x -> x.widen(-1, 3), x -> x.widen(4, 3), x -> x.widen(LOW, 3), x -> x.widen(HIGH, 3));
    }

    static void promise19NBelow0OrAbove24IsBeyond() {
        Edges.refused(BEYOND, x -> x.widen(0, -1), x -> x.widen(0, 25), x -> x.widen(0, LOW), x -> x.widen(0, HIGH));
    }

    static void promise19WithoutLinesIsNone() {
        Edges.refusedBy(() -> Edges.yards(2), NONE, x -> x.widen(0, 0), x -> x.widen(1, 24));
    }

    static void promise19WhereNoneIsMoreIsNone() {
        Edges.refusedBy(() -> roads(9, 2, 3), NONE, x -> x.widen(1, 0), x -> x.widen(1, 2), x -> x.widen(0, 24));
        Edges.refusedBy(() -> roads(0, 2, 3), NONE, x -> x.widen(1, 24));
    }

    static void promise19BeyondIsAskedAheadOfNone() {
        Edges.refusedBy(GoodsUnderWay::new, BEYOND, x -> x.widen(0, 0));
        Edges.refusedBy(() -> Edges.yards(2), BEYOND, x -> x.widen(2, 0), x -> x.widen(0, 25));
    }

    static void promise19ChangesNothing() {
        GoodsUnderWay x = roads(999, 99, 3);
        Edges.due(0, x.widen(1, 3));
        Edges.row("its", Edges.is(0, 0, 1, 99, 1, 0, 0, 99999), Edges.its(x, 0, 8));
        Edges.alike(x, roads(999, 99, 3));
    }

    static void promise19OneGoodMoreIsEnough() {
        Edges.due(0, roads(6, 2, 3).widen(1, 1));
        Edges.due(NONE, roads(5, 2, 3).widen(1, 1));
    }

    static void promise19OfSeveralTheLeastNumberCounts() {
        Edges.due(0, roads(99, 2, 3, 4).widen(1, 3));
        GoodsUnderWay x = roads(99, 2, 3, 4);
        x.change(0, 4, 3);
        Edges.due(1, x.widen(1, 3));
    }

    static void promise19WidthOf99BecomesMore() {
        Edges.due(0, roads(999, 99).widen(1, 1));
    }

    static void promise19LaterBecomesMore() {
        GoodsUnderWay x = roads(99, 3, 3);
        x.change(0, 7, 0);
        x.change(0, 6, 99);
        x.change(0, 4, 1);
        Edges.due(NONE, x.widen(1, 1));
        x.set(0, 1, 103);
        Edges.due(0, x.widen(1, 1));
    }

    static void promise19BothBecomeMore() {
        GoodsUnderWay x = roads(99, 3, 3);
        x.change(0, 7, 1);
        x.change(0, 6, 0);
        x.change(1, 4, 2);
        Edges.due(0, x.widen(1, 2));
        Edges.due(0, x.widen(1, 1));
    }

    static void promise19TwiceAndThriceCountAsSuch() {
        GoodsUnderWay x = roads(99, 3, 3, 3);
        x.change(1, 0, 5);
        x.change(1, 4, 5);
        Edges.due(0, x.widen(1, 5));
        x.change(0, 3, 0);
        x.change(2, 0, 4);
        Edges.due(2, x.widen(1, 2));
    }

    static void promise19HalfOfOneMoreIsCut() {
        GoodsUnderWay x = roads(99, 4);
        x.change(0, 0, 3);
        Edges.due(NONE, x.widen(1, 1));
        x.change(0, 3, 5);
        Edges.due(0, x.widen(1, 1));
    }

    static void promise19WhatWasSentTakesItsRoom() {
        GoodsUnderWay x = roads(99, 9, 9);
        x.send(0, 9);
        Edges.due(0, x.widen(1, 1));
        x.change(0, 3, 4);
        Edges.due(1, x.widen(1, 1));
    }

    // ---- 20: held

    static void promise20NoSuchLineIsBeyond() {
        Edges.refused(BEYOND, x -> x.held(-1, 0, 3), x -> x.held(5, 0, 3), x -> x.held(LOW, 0, 3), x -> x.held(HIGH, 0, 3));
    }

    static void promise20NoSuchStationIsBeyond() {
        Edges.refused(BEYOND, x -> x.held(0, -1, 3), x -> x.held(0, 4, 3), x -> x.held(0, LOW, 3), x -> x.held(0, HIGH, 3));
    }

    static void promise20NBelow0OrAbove24IsBeyond() {
        Edges.refused(BEYOND, x -> x.held(0, 1, -1), x -> x.held(0, 1, 25), x -> x.held(0, 1, LOW), x -> x.held(0, 1, HIGH));
    }

    static void promise20ChangesNothing() {
        Edges.keepsAll(x -> x.held(0, 1, 0), x -> x.held(2, 3, 9), x -> x.held(4, 0, 24));
    }

    static void promise20WhatIsNotNeededIs0() {
        Edges.due(0, roads(99, 9).held(0, 1, 0));
        Edges.due(0, roads(99, 9).held(0, 0, 24));
        Edges.due(0, roads(0, 9).held(0, 1, 24));
        Edges.due(0, roads(99, 0).held(0, 1, 24));
        Edges.dues(0, roads(9, 9, 9).held(0, 1, 1), roads(9, 9, 9).held(1, 1, 1));
    }

    static void promise20AllOfItMayBeNeeded() {
        Edges.due(9, roads(99, 9).held(0, 1, 1));
        Edges.due(9, roads(99, 9).held(0, 1, 11));
        Edges.due(99, roads(999, 99).held(0, 1, 10));
        GoodsUnderWay x = roads(999, 99);
        x.change(0, 0, 4);
        Edges.due(297, x.held(0, 1, 4));
    }

    static void promise20OneLessWouldBeTooLittle() {
        Edges.due(1, roads(1, 9).held(0, 1, 1));
        Edges.due(5, roads(10, 9).held(0, 1, 2));
        Edges.due(6, roads(11, 9).held(0, 1, 2));
        Edges.due(1, roads(24, 9).held(0, 1, 24));
        Edges.due(2, roads(25, 9).held(0, 1, 24));
    }

    static void promise20ItIsHeldToThatAtMost() {
        GoodsUnderWay x = roads(20, 4);
        x.change(0, 6, 9);
        x.change(0, 7, 2);
        Edges.due(9, x.held(0, 1, 3));
        Edges.due(6, x.held(0, 1, 4));
        Edges.due(4, x.held(0, 1, 5));
    }

    /** ROOM is held, and only then is what was sent taken from it. */
    static void promise20WhatWasSentIsOfWhatItIsHeldTo() {
        GoodsUnderWay x = roads(9, 9);
        x.send(0, 2);
        Edges.due(9, x.held(0, 1, 1));
        Edges.due(5, x.held(0, 1, 2));
        x.send(0, 7);
        Edges.due(0, x.held(0, 1, 24));
    }

    static void promise20WhatIsOnTheWayNeedsNoRoom() {
        GoodsUnderWay x = roads(9, 9);
        x.send(0, 9);
        Edges.due(0, x.held(0, 1, 1));
    }

    // ---- 21: begin

    static void promise21NoSuchStationIsBeyond() {
        Edges.refused(BEYOND, x -> x.begin(-1, 3), x -> x.begin(4, 3), x -> x.begin(LOW, 3), x -> x.begin(HIGH, 3));
        Edges.refusedBy(GoodsUnderWay::new, BEYOND, x -> x.begin(0, 0));
    }

    static void promise21NBelow0OrAbove24IsBeyond() {
        Edges.refused(BEYOND, x -> x.begin(0, -1), x -> x.begin(0, 25), x -> x.begin(0, LOW), x -> x.begin(0, HIGH));
    }

    static void promise21ChangesNothing() {
        Edges.keepsAll(x -> x.begin(0, 0), x -> x.begin(3, 9), x -> x.begin(1, 24));
    }

    /** One good more at the goal itself always counts, so that there is always one. */
    static void promise21TheGoalItselfAlwaysDoes() {
        Edges.due(1, roads(99, 9).begin(1, 0));
        Edges.due(1, roads(99, 9).begin(1, 3));
        Edges.due(0, Edges.yards(1).begin(0, 24));
        Edges.due(0, roads(99, 9).begin(0, 24));
    }

    static void promise21OfSeveralTheLeastNumberCounts() {
        Edges.due(0, roads(8, 9).begin(1, 1));
        Edges.due(1, roads(9, 9).begin(1, 1));
        Edges.due(0, roads(9, 9).begin(1, 2));
    }

    static void promise21TheOneGoodMoreIsThereNow() {
        GoodsUnderWay x = Edges.chain(0, 9, 2);
        Edges.due(2, x.begin(2, 1));
        Edges.due(1, x.begin(2, 2));
        Edges.due(1, x.begin(2, 3));
        Edges.due(0, x.begin(2, 4));
    }

    static void promise21WhatCannotBeHeldDoesNotCount() {
        GoodsUnderWay x = roads(7, 5);
        x.set(0, 0, 1);
        x.set(0, 2, 2);
        Edges.due(1, x.begin(1, 24));
        x.set(0, 2, 3);
        Edges.due(0, x.begin(1, 24));
    }

    static void promise21AStationMayHave999Already() {
        Edges.due(0, roads(999, 99, 99).begin(1, 24));
    }

    static void promise21WhatWasSentTakesItsRoom() {
        GoodsUnderWay x = roads(9, 9);
        x.send(0, 9);
        Edges.due(1, x.begin(1, 1));
        Edges.due(0, x.begin(1, 2));
    }

    // ---- 22: kind

    static void promise22NoSuchLineIsBeyond() {
        Edges.refused(BEYOND, x -> x.kind(-1, 0, 3), x -> x.kind(5, 0, 3), x -> x.kind(LOW, 0, 3), x -> x.kind(HIGH, 0, 3));
    }

    static void promise22NoSuchStationIsBeyond() {
        Edges.refused(BEYOND, x -> x.kind(0, -1, 3), x -> x.kind(0, 4, 3), x -> x.kind(0, LOW, 3), x -> x.kind(0, HIGH, 3));
    }

    static void promise22NBelow0OrAbove24IsBeyond() {
        Edges.refused(BEYOND, x -> x.kind(0, 1, -1), x -> x.kind(0, 1, 25), x -> x.kind(0, 1, LOW), x -> x.kind(0, 1, HIGH));
    }

    static void promise22ChangesNothing() {
        Edges.keepsAll(x -> x.kind(0, 1, 0), x -> x.kind(2, 3, 9), x -> x.kind(4, 0, 24));
    }

    static void promise22OfSeveralTheLeastNumberCounts() {
        for (int is = 0; is < 6; is++) {
            Edges.due(0, Edges.pair(99, is, 9, 1).kind(0, 1, 0));
            Edges.due(0, Edges.pair(99, is, 9, 1).kind(0, 0, 24));
            Edges.due(0, Edges.pair(99, is, 0, 1).kind(0, 1, 24));
            Edges.due(0, Edges.pair(99, is, 9, 1).kind(0, 1, 1));
        }
    }

    /** But a ferry, which is never better than a road. */
    static void promise22EachKindMayBeBest() {
        Edges.due(0, Edges.pair(999, 3, 9, 1).kind(0, 1, 1));
        Edges.due(1, Edges.pair(999, 0, 9, 8).kind(0, 1, 4));
        Edges.due(4, Edges.pair(999, 0, 9, 1).kind(0, 1, 3));
        Edges.due(3, Edges.pair(999, 0, 9, 8).kind(0, 1, 1));
        Edges.due(5, Edges.pair(999, 0, 9, 5).kind(0, 1, 6));
        GoodsUnderWay x = Edges.pair(999, 0, 9, 5);
        x.change(0, 5, 5);
        Edges.due(1, x.kind(0, 1, 3));
        Edges.due(5, x.kind(0, 1, 24));
    }

    /** A kind that is as good as the one that it has isn't taken, if its number is greater; a lesser one is. */
    static void promise22ItsOwnKindIsNoBetter() {
        Edges.due(0, Edges.pair(9, 5, 9, 1).kind(0, 1, 1));
        Edges.due(0, Edges.pair(9, 1, 9, 2).kind(0, 1, 2));
    }

    static void promise22WhatWasSentTakesItsRoom() {
        GoodsUnderWay x = Edges.pair(99, 0, 9, 1);
        x.send(0, 9);
        Edges.due(0, x.kind(0, 1, 1));
        Edges.due(4, x.kind(0, 1, 2));
        Edges.due(0, x.its(0, 0));
    }

    // ---- 23: goal

    static void promise23NBelow0IsBeyond() {
        Edges.refused(BEYOND, x -> x.goal(-1), x -> x.goal(LOW));
    }

    static void promise23NAbove24IsBeyond() {
        Edges.refused(BEYOND, x -> x.goal(25), x -> x.goal(HIGH));
    }

    static void promise23WithoutStationsIsNone() {
        Edges.refusedBy(GoodsUnderWay::new, NONE, x -> x.goal(0), x -> x.goal(24));
    }

    static void promise23BeyondIsAskedAheadOfNone() {
        Edges.refusedBy(GoodsUnderWay::new, BEYOND, x -> x.goal(-1), x -> x.goal(25));
    }

    static void promise23ChangesNothing() {
        Edges.keepsAll(x -> x.goal(0), x -> x.goal(9), x -> x.goal(24));
    }

    static void promise23OfSeveralTheLeastNumberCounts() {
        Edges.due(0, Edges.yards(6).goal(24));
        GoodsUnderWay x = Edges.yards(4);
        x.set(1, 1, 5);
        x.set(3, 1, 5);
        Edges.due(1, x.goal(24));
        x.set(3, 1, 6);
        Edges.due(3, x.goal(24));
    }

    static void promise23TheLastStationMayBeIt() {
        GoodsUnderWay x = Edges.yards(6);
        x.set(5, 1, 1);
        Edges.due(5, x.goal(0));
    }

    static void promise23ItIsByTheTicks() {
        GoodsUnderWay x = roads(50, 9);
        x.set(1, 1, 42);
        Edges.due(0, x.goal(0));
        Edges.due(1, x.goal(1));
        x.set(1, 1, 41);
        Edges.due(0, x.goal(1));
        Edges.due(1, x.goal(2));
    }

    public static void main(String[] args) throws IllegalAccessException, InvocationTargetException {
        Edges.run(EdgesWhichIsBestTest.class, 18, 23);
    }
}
