import java.lang.reflect.InvocationTargetException;

/** The edges of promises 31 to 37: sheets. */
public final class EdgesSheetsTest {
    private static final int BEYOND = Check.BEYOND;
    private static final int KIND = Check.KIND;
    private static final int MISSING = Check.MISSING;
    private static final int SIZE = Check.SIZE;
    private static final int LOW = Edges.LOW;
    private static final int HIGH = Edges.HIGH;

    private EdgesSheetsTest() { }

    // ---- 31: sheet

    static void promise31NoSuchSheetIsBeyond() {
        Edges.refused(BEYOND, x -> x.sheet(-1, 16, 1), x -> x.sheet(4, 16, 1), x -> x.sheet(LOW, 16, 1),
                x -> x.sheet(HIGH, 16, 1), x -> x.sheet(4, 0, 0));
    }

    static void promise31OtherBitsAreBeyond() {
        Edges.refused(BEYOND, x -> x.sheet(0, 8, 1), x -> x.sheet(0, 15, 1), x -> x.sheet(0, 17, 1), x -> x.sheet(0, 48, 1),
                x -> x.sheet(0, 65, 1), x -> x.sheet(0, 128, 1), x -> x.sheet(0, -16, 1), x -> x.sheet(0, 1, 1),
                x -> x.sheet(0, -1, 1), x -> x.sheet(0, LOW, 1), x -> x.sheet(0, HIGH, 1));
    }

    static void promise31NBelow0IsSize() {
        Edges.refused(SIZE, x -> x.sheet(0, 16, -1), x -> x.sheet(3, 32, -1), x -> x.sheet(1, 64, LOW));
    }

    static void promise31NAbove40IsBeyond() {
        Edges.refused(BEYOND, x -> x.sheet(0, 16, 41), x -> x.sheet(3, 32, 41), x -> x.sheet(1, 64, HIGH));
    }

    static void promise31SheetAndBitsAreAskedAheadOfSize() {
        Edges.refused(BEYOND, x -> x.sheet(4, 16, -1), x -> x.sheet(-1, 16, -1), x -> x.sheet(0, 8, -1));
    }

    static void promise31ItMayHave40Numbers() {
        for (int bits = 16; bits <= 64; bits *= 2) {
            GoodsUnderWay x = new GoodsUnderWay();
            Edges.due(40, x.sheet(3, bits, 40));
            Edges.due(0, x.write(3, 39, 5));
            Edges.due(5, x.write(3, 39, 0));
            Edges.due(BEYOND, x.write(3, 40, 0));
        }
    }

    static void promise31ItMayHaveNoNumbers() {
        for (int bits = 16; bits <= 64; bits *= 2) {
            GoodsUnderWay x = new GoodsUnderWay();
            Edges.due(0, x.sheet(0, bits, 0));
            Edges.due(BEYOND, x.write(0, 0, 0));
            Edges.due(0, x.lays(0));
        }
    }

    static void promise31WithBits0ItIsMissing() {
        GoodsUnderWay x = Edges.rich();
        Edges.due(0, x.sheet(0, 0, 5));
        Edges.due(MISSING, x.write(0, 0, 0));
        Edges.due(0, x.sheet(3, 0, 0));
        Edges.due(MISSING, x.write(3, 0, 0));
        Edges.due(5, x.write(1, 0, 0));
    }

    static void promise31WithBits0NDoesNotMatter() {
        int[] counts = {-1, 41, LOW, HIGH, 0, 40};
        for (int n : counts) {
            GoodsUnderWay x = Edges.rich();
            Edges.due(0, x.sheet(0, 0, n));
            Edges.due(MISSING, x.write(0, 0, 0));
            Edges.due(2, x.status(-1) + x.status(5));
        }
    }

    static void promise31AllAre0Then() {
        GoodsUnderWay x = new GoodsUnderWay();
        Edges.write(x, 0, 64, 1, 2, 3);
        Edges.due(3, x.sheet(0, 64, 3));
        Edges.row("numbers", Edges.is(0, 0, 0), Edges.numbers(x, 0, 3));
        Edges.write(x, 0, 64, 1, 2, 3);
        x.sheet(0, 0, 0);
        x.sheet(0, 16, 2);
        x.sheet(0, 32, 5);
        Edges.row("numbers", Edges.is(0, 0, 0, 0, 0), Edges.numbers(x, 0, 5));
    }

    static void promise31OthersStay() {
        GoodsUnderWay x = new GoodsUnderWay();
        for (int s = 0; s < 4; s++) {
            Edges.write(x, s, 16, s + 1, s + 2);
        }
        x.sheet(1, 32, 1);
        x.sheet(2, 0, 1);
        Edges.row("numbers", Edges.is(1, 2), Edges.numbers(x, 0, 2));
        Edges.row("numbers", Edges.is(4, 5), Edges.numbers(x, 3, 2));
    }

    // ---- 32: write

    static void promise32NoSuchSheetIsBeyond() {
        Edges.refused(BEYOND, x -> x.write(-1, 0, 1), x -> x.write(4, 0, 1), x -> x.write(LOW, 0, 1), x -> x.write(HIGH, 0, 1));
    }

    static void promise32AMissingSheetIsMissing() {
        Edges.refused(MISSING, x -> x.write(3, 0, 1), x -> x.write(3, 40, 1), x -> x.write(3, -1, 1));
    }

    static void promise32NoSuchNumberIsBeyond() {
        Edges.refused(BEYOND, x -> x.write(0, -1, 1), x -> x.write(0, 6, 1), x -> x.write(1, 3, 1), x -> x.write(2, 2, 1),
                x -> x.write(0, LOW, 1), x -> x.write(0, HIGH, 1));
        Edges.refusedBy(() -> {
            GoodsUnderWay x = new GoodsUnderWay();
            x.sheet(0, 16, 0);
            return x;
        }, BEYOND, x -> x.write(0, 0, 1));
    }

    private static void written(int bits, long v, long due) {
        GoodsUnderWay x = new GoodsUnderWay();
        x.sheet(0, bits, 3);
        Edges.due(0, x.write(0, 1, v));
        Edges.due(due, x.write(0, 1, 0));
        Edges.dues(0, x.write(0, 0, 0), x.write(0, 1, 0), x.write(0, 2, 0), x.status(-1));
    }

    static void promise32SixteenBitsGoRound() {
        written(16, 32767, 32767);
        written(16, 32768, -32768);
        written(16, -32768, -32768);
        written(16, -32769, 32767);
        written(16, 65535, -1);
        written(16, 65536, 0);
        written(16, Long.MAX_VALUE, -1);
        written(16, Long.MIN_VALUE, 0);
    }

    static void promise32ThirtyTwoBitsGoRound() {
        written(32, HIGH, HIGH);
        written(32, HIGH + 1L, LOW);
        written(32, LOW, LOW);
        written(32, LOW - 1L, HIGH);
        written(32, 0xffffffffL, -1);
        written(32, 1L << 32, 0);
        written(32, Long.MAX_VALUE, -1);
        written(32, Long.MIN_VALUE, 0);
        written(32, 32768, 32768);
    }

    static void promise32SixtyFourBitsHoldAll() {
        written(64, Long.MAX_VALUE, Long.MAX_VALUE);
        written(64, Long.MIN_VALUE, Long.MIN_VALUE);
        written(64, -1, -1);
        written(64, 1L << 32, 1L << 32);
    }

    /** What was written may look like a finding, and is none. */
    static void promise32ANumberLikeAFindingIsNone() {
        for (int finding = Check.OVER; finding <= BEYOND; finding++) {
            written(32, finding, finding);
            written(64, finding, finding);
        }
    }

    static void promise32OneAloneChanges() {
        GoodsUnderWay x = new GoodsUnderWay();
        Edges.write(x, 0, 16, 1, 2, 3);
        Edges.write(x, 1, 16, 4, 5, 6);
        Edges.due(2, x.write(0, 1, 9));
        Edges.row("numbers", Edges.is(1, 9, 3), Edges.numbers(x, 0, 3));
        Edges.row("numbers", Edges.is(4, 5, 6), Edges.numbers(x, 1, 3));
    }

    // ---- 33: copy

    /** Sheets 0 (1 to 5) and 1 (11 to 13) of 64 bits, 2 of 32 bits; 3 is missing. */
    private static GoodsUnderWay sheets() {
        GoodsUnderWay x = new GoodsUnderWay();
        Edges.write(x, 0, 64, 1, 2, 3, 4, 5);
        Edges.write(x, 1, 64, 11, 12, 13);
        Edges.write(x, 2, 32, 21, 22, 23);
        return x;
    }

    private static void refused(int finding, Edges.Call... calls) {
        Edges.refusedBy(EdgesSheetsTest::sheets, finding, calls);
    }

    static void promise33NoSuchSheetIsBeyond() {
        refused(BEYOND, x -> x.copy(-1, 0, 0, 0, 1), x -> x.copy(4, 0, 0, 0, 1), x -> x.copy(0, 0, -1, 0, 1),
                x -> x.copy(0, 0, 4, 0, 1), x -> x.copy(LOW, 0, HIGH, 0, 0));
    }

    static void promise33NoSuchSheetIsAskedAheadOfMissing() {
        refused(BEYOND, x -> x.copy(4, 0, 3, 0, 1), x -> x.copy(3, 0, 4, 0, 1), x -> x.copy(3, 0, -1, 0, 1));
    }

    static void promise33AMissingSheetIsMissing() {
        refused(MISSING, x -> x.copy(3, 0, 0, 0, 1), x -> x.copy(0, 0, 3, 0, 1), x -> x.copy(3, 0, 3, 0, 0),
                x -> x.copy(0, 0, 3, 0, 0), x -> x.copy(3, -1, 0, 0, -1));
    }

    static void promise33OtherBitsAreKind() {
        refused(KIND, x -> x.copy(0, 0, 2, 0, 1), x -> x.copy(2, 0, 0, 0, 1), x -> x.copy(0, 0, 2, 0, 0));
    }

    static void promise33KindIsAskedAheadOfBeyond() {
        refused(KIND, x -> x.copy(0, -1, 2, 0, 1), x -> x.copy(2, 0, 0, 0, 99), x -> x.copy(2, 0, 0, 0, -1));
    }

    static void promise33BelowZeroIsBeyond() {
        refused(BEYOND, x -> x.copy(0, -1, 1, 0, 1), x -> x.copy(0, 0, 1, -1, 1), x -> x.copy(0, 0, 1, 0, -1),
                x -> x.copy(0, -1, 0, 0, 0), x -> x.copy(0, 0, 0, -1, 0), x -> x.copy(0, LOW, 1, 0, 1),
                x -> x.copy(0, 0, 1, LOW, 1), x -> x.copy(0, 0, 1, 0, LOW), x -> x.copy(0, 2, 1, 2, -1));
    }

    static void promise33TheFirstHasNotSoManyIsBeyond() {
        refused(BEYOND, x -> x.copy(1, 0, 0, 0, 4), x -> x.copy(1, 3, 0, 0, 1), x -> x.copy(1, 2, 0, 0, 2),
                x -> x.copy(1, 4, 0, 0, 0), x -> x.copy(1, HIGH, 0, 0, 1));
    }

    static void promise33TheSecondHasNotSoManyIsBeyond() {
        refused(BEYOND, x -> x.copy(0, 0, 1, 0, 4), x -> x.copy(0, 0, 1, 3, 1), x -> x.copy(0, 0, 1, 2, 2),
                x -> x.copy(0, 0, 1, 4, 0), x -> x.copy(0, 0, 1, HIGH, 1));
    }

    /** Together they would be small again, if they went round. */
    static void promise33SumsDoNotGoRound() {
        refused(BEYOND, x -> x.copy(0, HIGH, 1, 0, HIGH), x -> x.copy(0, 0, 1, HIGH, HIGH), x -> x.copy(0, 1, 1, 1, HIGH),
                x -> x.copy(0, HIGH, 0, HIGH, 2));
    }

    static void promise33AllOfASheetMayCome() {
        GoodsUnderWay x = sheets();
        Edges.due(3, x.copy(1, 0, 0, 0, 3));
        Edges.row("numbers", Edges.is(11, 12, 13, 4, 5), Edges.numbers(x, 0, 5));
        x = sheets();
        Edges.due(3, x.copy(0, 2, 1, 0, 3));
        Edges.row("numbers", Edges.is(3, 4, 5), Edges.numbers(x, 1, 3));
        Edges.row("numbers", Edges.is(1, 2, 3, 4, 5), Edges.numbers(x, 0, 5));
    }

    static void promise33NoneMayCome() {
        GoodsUnderWay x = sheets();
        Edges.dues(0, x.copy(0, 0, 1, 0, 0), x.copy(0, 5, 1, 3, 0), x.copy(1, 3, 1, 3, 0));
        Edges.alike(x, sheets());
    }

    static void promise33TheLastMayCome() {
        GoodsUnderWay x = sheets();
        Edges.due(1, x.copy(0, 4, 1, 2, 1));
        Edges.row("numbers", Edges.is(11, 12, 5), Edges.numbers(x, 1, 3));
    }

    static void promise33TheyComeAsTheyAllWere() {
        GoodsUnderWay x = sheets();
        Edges.due(4, x.copy(0, 0, 0, 1, 4));
        Edges.row("numbers", Edges.is(1, 1, 2, 3, 4), Edges.numbers(x, 0, 5));
        x = sheets();
        Edges.due(4, x.copy(0, 1, 0, 0, 4));
        Edges.row("numbers", Edges.is(2, 3, 4, 5, 5), Edges.numbers(x, 0, 5));
        x = sheets();
        Edges.due(5, x.copy(0, 0, 0, 0, 5));
        Edges.alike(x, sheets());
    }

    static void promise33FortyMayCome() {
        GoodsUnderWay x = new GoodsUnderWay();
        x.sheet(0, 16, 40);
        x.sheet(1, 16, 40);
        x.write(0, 0, 7);
        x.write(0, 39, 8);
        Edges.due(40, x.copy(0, 0, 1, 0, 40));
        Edges.due(7, x.write(1, 0, 0));
        Edges.due(8, x.write(1, 39, 0));
    }

    // ---- 34: lays

    static void promise34NoSuchSheetIsBeyond() {
        Edges.refused(BEYOND, x -> x.lays(-1), x -> x.lays(4), x -> x.lays(LOW), x -> x.lays(HIGH));
    }

    static void promise34AMissingSheetIsMissing() {
        Edges.refused(MISSING, x -> x.lays(3));
    }

    /** Stock of three yards (5, 6, 7 before), behind numbers that were laid. */
    private static void laid(int came, long[] due, long... numbers) {
        GoodsUnderWay x = Edges.yards(3);
        for (int i = 0; i < 3; i++) {
            x.set(i, 1, 5 + i);
        }
        Edges.write(x, 0, 64, numbers);
        Edges.due(came, x.lays(0));
        Edges.row("stock", due, x.of(0, 1), x.of(1, 1), x.of(2, 1));
        Edges.row("numbers", numbers, Edges.numbers(x, 0, numbers.length));
        Edges.due(0, x.status(-1));
    }

    static void promise34NumbersAre0To999() {
        laid(3, Edges.is(0, 999, 1), 0, 999, 1);
    }

    static void promise34OthersAreLeftOut() {
        laid(1, Edges.is(5, 3, 7), -1, 3, 1000);
        laid(0, Edges.is(5, 6, 7), Long.MIN_VALUE, Long.MAX_VALUE, 1000);
    }

    static void promise34NumbersAreWhole() {
        laid(0, Edges.is(5, 6, 7), 1L << 32, (1L << 32) + 3, -1L << 40);
    }

    static void promise34WithoutNumbersNoneComes() {
        laid(0, Edges.is(5, 6, 7));
    }

    static void promise34FewerNumbersThanStations() {
        laid(2, Edges.is(8, 9, 7), 8, 9);
    }

    static void promise34NumbersThatStandForNoneAreLeftOut() {
        laid(3, Edges.is(8, 9, 10), 8, 9, 10, 11, 12, 13, 14);
        GoodsUnderWay x = new GoodsUnderWay();
        Edges.write(x, 0, 16, 1, 2, 3);
        Edges.due(0, x.lays(0));
        Edges.due(0, x.station(0, 0));
        Edges.due(0, x.of(0, 1));
    }

    static void promise34FortyNumbersForSixStations() {
        GoodsUnderWay x = Edges.yards(6);
        x.sheet(0, 16, 40);
        x.write(0, 5, 9);
        Edges.due(6, x.lays(0));
        Edges.due(9, x.of(5, 1));
    }

    static void promise34StockAboveAllMayBeLaidOver() {
        GoodsUnderWay x = Edges.pair(99, 0, 99, 1);
        x.set(1, 1, 999);
        x.send(0, 99);
        x.go(1);
        Edges.write(x, 0, 32, 1000, 4);
        Edges.due(1, x.lays(0));
        Edges.row("stock", Edges.is(0, 4), x.of(0, 1), x.of(1, 1));
    }

    static void promise34NothingElseChanges() {
        GoodsUnderWay x = Edges.rich();
        GoodsUnderWay twin = Edges.rich();
        Edges.due(2, x.lays(1));
        twin.set(0, 1, 5);
        twin.set(2, 1, 7);
        Edges.alike(x, twin);
    }

    // ---- 35: book

    static void promise35NoSuchSheetIsBeyond() {
        Edges.refused(BEYOND, x -> x.book(-1, 0), x -> x.book(4, 0), x -> x.book(LOW, 9), x -> x.book(HIGH, 0));
    }

    static void promise35AMissingSheetIsMissing() {
        Edges.refused(MISSING, x -> x.book(3, 0), x -> x.book(3, -1), x -> x.book(3, 4));
    }

    static void promise35NoSuchStationIsBeyond() {
        Edges.refused(BEYOND, x -> x.book(0, -1), x -> x.book(0, 4), x -> x.book(0, LOW), x -> x.book(0, HIGH));
    }

    static void promise35AsManyAsItHas() {
        for (int n = 0; n <= 4; n++) {
            GoodsUnderWay x = Edges.pair(50, 0, 9, 2);
            x.sheet(0, 32, n);
            Edges.due(n, x.book(0, 1));
            long[] due = {0, 0, 9, 18};
            Edges.row("numbers", java.util.Arrays.copyOf(due, n), Edges.numbers(x, 0, n));
            Edges.due(0, x.status(-1));
        }
    }

    static void promise35TwentyFiveAreTheMost() {
        for (int n = 24; n <= 40; n++) {
            GoodsUnderWay x = Edges.pair(999, 0, 1, 1);
            x.sheet(0, 16, n);
            for (int i = 0; i < n; i++) {
                x.write(0, i, -7);
            }
            Edges.due(Math.min(n, 25), x.book(0, 1));
            for (int i = 0; i < n; i++) {
                Edges.due(i < 25 ? i : -7, x.write(0, i, 0));
            }
        }
    }

    static void promise35ItIsMostBehindEachTick() {
        GoodsUnderWay x = Edges.rich();
        x.sheet(3, 64, 25);
        for (int g = 0; g < 4; g++) {
            x.book(3, g);
            for (int n = 0; n <= 24; n++) {
                Edges.due(x.most(g, n), x.write(3, n, 0));
            }
        }
    }

    static void promise35NothingElseChanges() {
        GoodsUnderWay x = Edges.rich();
        GoodsUnderWay twin = Edges.rich();
        Edges.due(3, x.book(1, 3));
        for (int n = 0; n < 3; n++) {
            twin.write(1, n, twin.most(3, n));
        }
        Edges.alike(x, twin);
    }

    /** A yard that is filled above what 16 bits can tell. */
    static void promise35TheLowestBitsCome() {
        GoodsUnderWay x = Edges.yards(6);
        for (int i = 0; i < 5; i++) {
            x.line(4, i, 5, 99, 1);
        }
        Edges.write(x, 0, 16, 999, 999, 999, 999, 999);
        x.sheet(1, 16, 30);
        for (int i = 0; i < 10; i++) {
            x.write(1, 3 * i, i % 5);
            x.write(1, 3 * i + 1, i / 5);
            x.write(1, 3 * i + 2, 297);
        }
        for (int i = 0; i < 23; i++) {
            x.lays(0);
            x.run(1, 5, 4);
        }
        Edges.due(68310, x.of(5, 1));
        x.sheet(2, 16, 1);
        x.sheet(3, 32, 1);
        x.book(2, 5);
        x.book(3, 5);
        Edges.due(68310 - 65536, x.write(2, 0, 0));
        Edges.due(68310, x.write(3, 0, 0));
    }

    // ---- 36: replay

    static void promise36NoSuchSheetIsBeyond() {
        Edges.refused(BEYOND, x -> x.replay(-1, 0, 3), x -> x.replay(4, 0, 3), x -> x.replay(LOW, 0, 3),
                x -> x.replay(HIGH, 9, 99));
    }

    static void promise36AMissingSheetIsMissing() {
        Edges.refused(MISSING, x -> x.replay(3, 0, 3), x -> x.replay(3, -1, 3), x -> x.replay(3, 0, 25));
    }

    static void promise36NoSuchStationIsBeyond() {
        Edges.refused(BEYOND, x -> x.replay(0, -1, 3), x -> x.replay(0, 4, 3), x -> x.replay(0, LOW, 3),
                x -> x.replay(0, HIGH, 3));
    }

    static void promise36NBelow0OrAbove24IsBeyond() {
        Edges.refused(BEYOND, x -> x.replay(0, 0, -1), x -> x.replay(0, 0, 25), x -> x.replay(0, 0, LOW),
                x -> x.replay(0, 0, HIGH));
    }

    /** Yard 0 with 50, yard 1; a road of 9, two ticks. */
    private static GoodsUnderWay planned(long... numbers) {
        GoodsUnderWay x = Edges.pair(50, 0, 9, 2);
        Edges.write(x, 0, 64, numbers);
        return x;
    }

    static void promise36ChangesNothing() {
        Edges.keepsAll(x -> x.replay(0, 0, 0), x -> x.replay(0, 3, 5), x -> x.replay(1, 1, 24), x -> x.replay(2, 0, 24));
        GoodsUnderWay x = planned(0, 0, 9, 0, 1, 10);
        Edges.due(-2, x.replay(0, 0, 5));
        Edges.alike(x, planned(0, 0, 9, 0, 1, 10));
    }

    static void promise36NoTickGoesAndNothingIsSent() {
        Edges.due(50, planned(0, 0, 9).replay(0, 0, 0));
        Edges.due(50, planned(7, 0, 9).replay(0, 0, 0));
    }

    static void promise36TwentyFourTicksGo() {
        Edges.due(9, planned(0, 22, 9).replay(0, 1, 24));
        Edges.due(0, planned(0, 23, 9).replay(0, 1, 24));
        Edges.due(41, planned(0, 23, 9).replay(0, 0, 24));
        Edges.due(50, planned(0, 24, 9).replay(0, 0, 24));
    }

    static void promise36AnEmptyPlanSendsNothing() {
        Edges.due(50, planned().replay(0, 0, 24));
    }

    static void promise36OneOrTwoAtItsEndDoNotCount() {
        Edges.due(50, planned(0).replay(0, 0, 5));
        Edges.due(50, planned(0, 0).replay(0, 0, 5));
        Edges.due(41, planned(0, 0, 9).replay(0, 0, 5));
        Edges.due(41, planned(0, 0, 9, 7).replay(0, 0, 5));
        Edges.due(41, planned(0, 0, 9, 7, 1).replay(0, 0, 5));
        Edges.due(-2, planned(0, 0, 9, 7, 1, 0).replay(0, 0, 5));
    }

    static void promise36TicksThatDoNotComeDoNotMatter() {
        Edges.due(50, planned(7, 5, 1, 7, -1, 1, 7, 24, 1).replay(0, 0, 5));
        Edges.due(-1, planned(7, 4, 1).replay(0, 0, 5));
        Edges.due(50, planned(7, 1L << 32, 1, 7, Long.MIN_VALUE, 1).replay(0, 0, 5));
    }

    static void promise36NoSuchLineFails() {
        Edges.dues(-1, planned(1, 0, 0).replay(0, 0, 1), planned(-1, 0, 0).replay(0, 0, 1), planned(10, 0, 1).replay(0, 0, 1),
                planned(1L << 32, 0, 1).replay(0, 0, 1), planned(Long.MIN_VALUE, 0, 1).replay(0, 0, 1),
                planned(Long.MAX_VALUE, 0, 1).replay(0, 0, 1));
    }

    static void promise36AnAmountBelow0Fails() {
        Edges.dues(-1, planned(0, 0, -1).replay(0, 0, 1), planned(0, 0, Long.MIN_VALUE).replay(0, 0, 1),
                planned(0, 0, -1L << 32).replay(0, 0, 1));
        Edges.due(50, planned(0, 0, 0).replay(0, 0, 1));
    }

    static void promise36TooLittleRoomFails() {
        Edges.due(-1, planned(0, 0, 10).replay(0, 0, 1));
        Edges.due(-2, planned(0, 0, 4, 0, 0, 6).replay(0, 0, 1));
        Edges.due(41, planned(0, 0, 4, 0, 0, 5).replay(0, 0, 1));
        Edges.dues(-1, planned(0, 0, 1L << 32).replay(0, 0, 1), planned(0, 0, Long.MAX_VALUE).replay(0, 0, 1),
                planned(0, 0, (1L << 32) + 3).replay(0, 0, 1));
    }

    static void promise36TooLittleStockFails() {
        GoodsUnderWay x = planned(0, 0, 9);
        x.set(0, 1, 8);
        Edges.due(-1, x.replay(0, 0, 1));
        x.set(0, 1, 9);
        Edges.due(0, x.replay(0, 0, 1));
    }

    static void promise36WhatWasSentInThisTickCounts() {
        GoodsUnderWay x = planned(0, 0, 5, 0, 1, 9);
        x.send(0, 4);
        Edges.due(32, x.replay(0, 0, 2));
        x.write(0, 2, 6);
        Edges.due(-1, x.replay(0, 0, 2));
    }

    static void promise36TheNumberOfTheThreeIsTold() {
        long[] plan = new long[39];
        plan[38] = 10;
        Edges.due(-13, planned(plan).replay(0, 0, 1));
        plan[37] = 23;
        Edges.due(-13, planned(plan).replay(0, 0, 24));
        Edges.due(50, planned(plan).replay(0, 0, 23));
    }

    /** By the tick first: the second three is sent ahead of the first one. */
    static void promise36ThreesGoByTheirTickAndThenByTheirOrder() {
        Edges.due(-2, planned(0, 1, 99, 0, 0, 99).replay(0, 0, 2));
        Edges.due(-1, planned(0, 1, 99, 0, 0, 9).replay(0, 0, 2));
        Edges.due(-2, planned(0, 0, 5, 0, 0, 5, 0, 0, 4).replay(0, 0, 2));
        Edges.due(41, planned(0, 0, 5, 0, 0, 4, 0, 0, 0).replay(0, 0, 2));
    }

    static void promise36AFailingPlanIsNoFinding() {
        GoodsUnderWay x = planned(0, 0, 10);
        x.replay(0, 0, 1);
        x.run(0, 0, 1);
        Edges.due(0, x.status(-1));
    }

    static void promise36WhatIsLostAndComesCounts() {
        GoodsUnderWay x = planned(0, 0, 9, 0, 1, 9);
        x.set(1, 0, 1);
        x.set(1, 2, 5);
        Edges.due(0, x.replay(0, 1, 1));
        Edges.due(9, x.replay(0, 1, 2));
        Edges.due(14, x.replay(0, 1, 3));
        Edges.due(5, x.replay(0, 1, 4));
    }

    // ---- 37: run

    static void promise37NoSuchSheetIsBeyond() {
        Edges.refused(BEYOND, x -> x.run(-1, 0, 3), x -> x.run(4, 0, 3), x -> x.run(LOW, 0, 3), x -> x.run(HIGH, 9, 99));
    }

    static void promise37AMissingSheetIsMissing() {
        Edges.refused(MISSING, x -> x.run(3, 0, 3), x -> x.run(3, -1, 3), x -> x.run(3, 0, 25));
    }

    static void promise37NoSuchStationIsBeyond() {
        Edges.refused(BEYOND, x -> x.run(0, -1, 3), x -> x.run(0, 4, 3), x -> x.run(0, LOW, 3), x -> x.run(0, HIGH, 3));
    }

    static void promise37NBelow0OrAbove24IsBeyond() {
        Edges.refused(BEYOND, x -> x.run(0, 0, -1), x -> x.run(0, 0, 25), x -> x.run(0, 0, LOW), x -> x.run(0, 0, HIGH));
    }

    static void promise37WithAPlanThatFailsNothingChanges() {
        long[][] plans = {{0, 0, 10}, {0, 0, 9, 0, 3, 10}, {0, 0, 9, 1, 23, 0}, {0, 0, 9, 0, 1, 9, 0, 1, -1},
            {0, 3, 10}};
        for (long[] plan : plans) {
            GoodsUnderWay x = planned(plan);
            Edges.due(-plan.length / 3, x.run(0, 0, 24));
            Edges.alike(x, planned(plan));
        }
    }

    /** Even the first three of it may fail when ticks have gone, and others were sent. */
    static void promise37ThatItsFirstThreeFailsChangesNothing() {
        GoodsUnderWay x = planned(0, 3, 10, 0, 0, 9, 0, 1, 9);
        Edges.due(-1, x.run(0, 0, 24));
        Edges.alike(x, planned(0, 3, 10, 0, 0, 9, 0, 1, 9));
    }

    static void promise37AGoalWithoutStockIsNoFailure() {
        GoodsUnderWay x = planned(0, 0, 9);
        Edges.due(0, x.run(0, 1, 1));
        Edges.due(1, x.now(0));
        Edges.due(41, x.of(0, 1));
    }

    static void promise37NoTickGoes() {
        GoodsUnderWay x = planned(0, 0, 9);
        Edges.due(50, x.run(0, 0, 0));
        Edges.alike(x, planned(0, 0, 9));
    }

    static void promise37IsAsSendAndGo() {
        GoodsUnderWay x = Edges.rich();
        GoodsUnderWay twin = Edges.rich();
        Edges.write(x, 1, 32, 0, 2, 3, 4, 0, 1, 1, 1, 0, 0, 2, 4, 4, 3, 5, 7);
        Edges.write(twin, 1, 32, 0, 2, 3, 4, 0, 1, 1, 1, 0, 0, 2, 4, 4, 3, 5, 7);
        int then = x.run(1, 3, 5);
        twin.send(4, 1);
        twin.go(1);
        twin.send(1, 0);
        twin.go(1);
        twin.send(0, 3);
        twin.send(0, 4);
        twin.go(1);
        twin.send(4, 5);
        twin.go(2);
        Edges.due(twin.of(3, 1), then);
        x.of(3, 1);
        Edges.alike(x, twin);
    }

    static void promise37TwentyFourTicksGo() {
        GoodsUnderWay x = planned(0, 23, 9, 0, 22, 8);
        Edges.due(8, x.run(0, 1, 24));
        Edges.due(24, x.now(0));
        Edges.due(9, x.now(2));
        Edges.due(0, x.now(4));
    }

    static void promise37TheSheetStays() {
        GoodsUnderWay x = planned(0, 0, 9, 5);
        x.run(0, 1, 3);
        Edges.row("numbers", Edges.is(0, 0, 9, 5), Edges.numbers(x, 0, 4));
        Edges.due(18, x.run(0, 1, 3));
    }

    static void promise37AnImageStays() {
        GoodsUnderWay x = planned(0, 0, 9);
        x.go(1);
        x.image();
        x.run(0, 1, 3);
        Edges.due(4, x.now(0));
        Edges.due(1, x.undo());
        Edges.due(50, x.of(0, 1));
    }

    public static void main(String[] args) throws IllegalAccessException, InvocationTargetException {
        Edges.run(EdgesSheetsTest.class, 31, 37);
    }
}
