import java.lang.reflect.InvocationTargetException;

/** The edges of promises 38 to 42: images, counts and findings. */
public final class EdgesImagesTest {
    private static final int BEYOND = Check.BEYOND;
    private static final int NONE = Check.NONE;
    private static final int LOW = Edges.LOW;
    private static final int HIGH = Edges.HIGH;

    private EdgesImagesTest() { }

    // ---- 38: image

    static void promise38OfNothingIsKeptToo() {
        GoodsUnderWay x = new GoodsUnderWay();
        Edges.due(1, x.image());
        x.station(0, 5);
        x.station(0, 5);
        x.line(0, 0, 1, 9, 1);
        x.go(5);
        Edges.due(0, x.undo());
        Edges.dues(0, x.count(0), x.count(1), x.count(2), x.count(4));
        Edges.due(0, x.station(0, 6));
    }

    static void promise38ChangesNothingElse() {
        GoodsUnderWay x = Edges.rich();
        Edges.due(1, x.image());
        x.tear();
        GoodsUnderWay twin = Edges.rich();
        twin.tear();
        Edges.alike(x, twin);
    }

    static void promise38TheTapeIsNotKept() {
        GoodsUnderWay x = new GoodsUnderWay();
        x.feed(0x79617264, 4);
        x.image();
        x.feed(0x3b, 1);
        x.undo();
        Edges.due(5, x.count(5));
        x.wipe();
        x.undo();
        Edges.due(0, x.count(5));
        Edges.due(-1, x.text());
    }

    static void promise38SheetsAreNotKept() {
        GoodsUnderWay x = new GoodsUnderWay();
        Edges.write(x, 0, 16, 5);
        Edges.write(x, 1, 16, 6);
        x.image();
        x.write(0, 0, 7);
        x.sheet(1, 0, 0);
        x.sheet(2, 64, 1);
        x.write(2, 0, 1L << 40);
        x.undo();
        Edges.due(7, x.write(0, 0, 0));
        Edges.due(Check.MISSING, x.write(1, 0, 0));
        Edges.due(1L << 40, x.write(2, 0, 0));
    }

    static void promise38TheLatestAloneIsKept() {
        GoodsUnderWay x = new GoodsUnderWay();
        x.go(1);
        x.image();
        x.go(1);
        x.image();
        x.go(1);
        Edges.due(2, x.undo());
        Edges.due(2, x.undo());
        x.tear();
        Edges.due(NONE, x.undo());
    }

    static void promise38WhatComesLaterIsNotOfIt() {
        GoodsUnderWay x = Edges.pair(50, 0, 9, 2);
        x.image();
        x.set(0, 1, 7);
        x.set(1, 0, 1);
        x.change(0, 3, 1);
        Edges.due(0, x.undo());
        Edges.row("of", Edges.is(0, 50, 20), Edges.of(x, 0, 3));
        Edges.row("of", Edges.is(0, 0, 20), Edges.of(x, 1, 3));
        Edges.row("its", Edges.is(0, 0, 1, 9, 2), Edges.its(x, 0, 5));
    }

    // ---- 39: undo

    static void promise39WithNothingKeptIsNone() {
        Edges.refusedBy(GoodsUnderWay::new, NONE, x -> x.undo());
        Edges.refusedBy(() -> {
            GoodsUnderWay x = Edges.rich();
            x.tear();
            return x;
        }, NONE, x -> x.undo());
    }

    static void promise39TheImageStays() {
        GoodsUnderWay x = new GoodsUnderWay();
        x.go(3);
        x.image();
        for (int i = 0; i < 5; i++) {
            x.go(2);
            Edges.due(3, x.undo());
            Edges.due(3, x.now(0));
        }
    }

    static void promise39RightBehindImageNothingChanges() {
        GoodsUnderWay x = Edges.rich();
        x.image();
        Edges.due(1, x.undo());
        GoodsUnderWay twin = Edges.rich();
        twin.image();
        Edges.alike(x, twin);
    }

    static void promise39AllIsAsItWas() {
        GoodsUnderWay x = Edges.rich();
        x.image();
        x.station(1, 9);
        x.line(0, 0, 4, 5, 5);
        x.send(1, 0);
        x.lays(1);
        x.set(3, 2, 1);
        x.set(2, 0, 1);
        for (int what = 0; what < 8; what++) {
            x.change(0, what, what == 1 ? 2 : what == 2 ? 3 : 1);
        }
        x.go(9);
        Edges.due(1, x.undo());
        GoodsUnderWay twin = Edges.rich();
        twin.image();
        twin.send(1, 0);
        Edges.alike(x, twin);
    }

    static void promise39SentIsAsItWas() {
        GoodsUnderWay x = Edges.pair(50, 0, 9, 2);
        x.send(0, 7);
        x.image();
        x.go(1);
        Edges.due(0, x.its(0, 10));
        x.undo();
        Edges.due(7, x.its(0, 10));
        Edges.due(Check.STATE, x.send(0, 3));
        Edges.due(41, x.send(0, 2));
    }

    static void promise39LostIsAsItWas() {
        GoodsUnderWay x = new GoodsUnderWay();
        x.station(1, 25);
        x.image();
        Edges.due(5, x.go(1));
        x.undo();
        Edges.dues(0, x.count(3), x.now(3));
        Edges.due(5, x.go(1));
    }

    static void promise39GoodsUnderWayAreAsTheyWere() {
        GoodsUnderWay x = Edges.pair(50, 0, 9, 2);
        x.send(0, 7);
        x.image();
        x.go(5);
        x.send(0, 9);
        x.undo();
        Edges.due(7, x.its(0, 11));
        x.go(2);
        Edges.due(7, x.of(1, 1));
        x.go(20);
        Edges.due(7, x.of(1, 1));
    }

    static void promise39StationsAndLinesMayComeBack() {
        GoodsUnderWay x = Edges.full();
        x.image();
        x.undo();
        Edges.due(6, x.count(1));
        Edges.due(10, x.count(2));
        Edges.due(Check.FULL, x.station(0, 0));
        Edges.due(Check.FULL, x.line(0, 0, 1, 1, 1));
    }

    // ---- 40: tear

    static void promise40WithNothingKeptIs0() {
        GoodsUnderWay x = new GoodsUnderWay();
        Edges.dues(0, x.tear(), x.tear(), x.status(-1));
    }

    static void promise40WithSomethingKeptIs1() {
        GoodsUnderWay x = new GoodsUnderWay();
        x.image();
        x.image();
        Edges.due(1, x.tear());
        Edges.due(0, x.tear());
        Edges.due(NONE, x.undo());
    }

    static void promise40AnUndoneImageIsStillKept() {
        GoodsUnderWay x = new GoodsUnderWay();
        x.image();
        x.undo();
        Edges.due(1, x.tear());
        Edges.due(0, x.tear());
    }

    static void promise40AnotherMayBeKeptThen() {
        GoodsUnderWay x = new GoodsUnderWay();
        x.image();
        x.tear();
        x.go(4);
        Edges.due(1, x.image());
        x.go(1);
        Edges.due(4, x.undo());
    }

    static void promise40NothingElseChanges() {
        GoodsUnderWay x = Edges.rich();
        x.image();
        x.tear();
        x.image();
        GoodsUnderWay twin = Edges.rich();
        twin.image();
        Edges.alike(x, twin);
    }

    // ---- 41: count

    static void promise41WhatBelow0IsBeyond() {
        Edges.refused(BEYOND, x -> x.count(-1), x -> x.count(LOW));
    }

    static void promise41WhatAbove5IsBeyond() {
        Edges.refused(BEYOND, x -> x.count(6), x -> x.count(HIGH));
    }

    static void promise41AllIs0OfNothing() {
        GoodsUnderWay x = new GoodsUnderWay();
        for (int what = 0; what < 6; what++) {
            Edges.due(0, x.count(what));
        }
    }

    static void promise41OfTheMostOfAll() {
        GoodsUnderWay x = Edges.full();
        Edges.feed(x, " ".repeat(120));
        Edges.due(6, x.count(1));
        Edges.due(10, x.count(2));
        Edges.due(120, x.count(5));
    }

    static void promise41GoodsAreStockAndOnTheWay() {
        GoodsUnderWay x = Edges.pair(50, 0, 9, 2);
        x.set(1, 1, 25);
        x.send(0, 9);
        Edges.due(75, x.count(4));
        x.set(1, 0, 1);
        x.go(1);
        Edges.due(70, x.count(4));
        Edges.due(5, x.count(3));
        x.go(1);
        Edges.due(70, x.count(4));
    }

    static void promise41ChangesNothing() {
        Edges.keepsAll(x -> x.count(0), x -> x.count(1), x -> x.count(2), x -> x.count(3), x -> x.count(4), x -> x.count(5));
    }

    // ---- 42: status

    static void promise42AnotherOneIsBeyond() {
        Edges.refused(BEYOND, x -> x.status(-2), x -> x.status(8), x -> x.status(LOW), x -> x.status(HIGH));
    }

    static void promise42ItsOwnIsCountedFromThenOn() {
        GoodsUnderWay x = new GoodsUnderWay();
        Edges.due(BEYOND, x.status(8));
        Edges.due(1, x.status(0));
        Edges.due(1, x.status(-1));
        Edges.due(BEYOND, x.status(-2));
        Edges.due(2, x.status(0));
        Edges.due(2, x.status(-1));
    }

    static void promise42ChangesNothing() {
        Edges.keepsAll(x -> x.status(-1), x -> x.status(0), x -> x.status(7));
    }

    private static void counted(int which, Edges.Build build, Edges.Call call) {
        GoodsUnderWay x = build.make();
        Edges.due(BEYOND - which, call.on(x));
        Edges.due(BEYOND - which, call.on(x));
        for (int i = 0; i < 8; i++) {
            Edges.due(i == which ? 2 : 0, x.status(i));
        }
        Edges.due(2, x.status(-1));
    }

    static void promise42EachFindingHasItsNumber() {
        counted(0, GoodsUnderWay::new, x -> x.of(0, 0));
        counted(1, Edges::full, x -> x.station(0, 0));
        counted(2, () -> Edges.pair(0, 0, 1, 1), x -> x.as(0, 1));
        counted(3, GoodsUnderWay::new, x -> x.undo());
        counted(4, () -> Edges.pair(0, 0, 1, 1), x -> x.send(0, 1));
        counted(5, GoodsUnderWay::new, x -> x.write(0, 0, 0));
        counted(6, GoodsUnderWay::new, x -> x.sheet(0, 16, -1));
        counted(7, () -> Edges.pair(0, 0, 9, 1), x -> x.steady(0, 1, HIGH));
    }

    static void promise42UndoTakesNoneBack() {
        GoodsUnderWay x = Edges.pair(0, 0, 1, 1);
        x.go(0);
        x.image();
        x.go(0);
        x.send(0, 1);
        x.undo();
        Edges.due(2, x.status(0));
        Edges.due(1, x.status(4));
        Edges.due(3, x.status(-1));
    }

    static void promise42AnswersThatAreNoneAreNotCounted() {
        GoodsUnderWay x = Edges.pair(50, 0, 9, 1);
        x.text();
        Edges.write(x, 0, 64, 9, 0, 1, BEYOND);
        x.replay(0, 0, 1);
        x.run(0, 0, 1);
        x.write(0, 3, 0);
        x.tear();
        x.wipe();
        Edges.due(0, x.status(-1));
    }

    static void promise42AnObjectIsUsedFor512Calls() {
        GoodsUnderWay x = new GoodsUnderWay();
        for (int i = 0; i < 510; i++) {
            x.go(0);
        }
        Edges.due(510, x.status(0));
        Edges.due(510, x.status(-1));
    }

    public static void main(String[] args) throws IllegalAccessException, InvocationTargetException {
        Edges.run(EdgesImagesTest.class, 38, 42);
    }
}
