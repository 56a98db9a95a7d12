import java.lang.reflect.InvocationTargetException;

/** The edges of promises 28 to 30: texts. */
public final class EdgesTextsTest {
    private static final int BEYOND = Check.BEYOND;
    private static final int FULL = Check.FULL;
    private static final int LOW = Edges.LOW;
    private static final int HIGH = Edges.HIGH;

    private EdgesTextsTest() { }

    // ---- 28: feed

    static void promise28NBelow1IsBeyond() {
        Edges.refused(BEYOND, x -> x.feed(0x20, 0), x -> x.feed(0x20, -1), x -> x.feed(0x20, LOW));
    }

    static void promise28NAbove4IsBeyond() {
        Edges.refused(BEYOND, x -> x.feed(0x20, 5), x -> x.feed(0x20, 8), x -> x.feed(0x20, HIGH));
    }

    static void promise28HowManyThereAreIsTold() {
        GoodsUnderWay x = new GoodsUnderWay();
        Edges.due(1, x.feed(0, 1));
        Edges.due(3, x.feed(0, 2));
        Edges.due(6, x.feed(0, 3));
        Edges.due(10, x.feed(0, 4));
        Edges.due(10, x.count(5));
    }

    private static GoodsUnderWay fed(int bytes) {
        GoodsUnderWay x = new GoodsUnderWay();
        for (int i = 0; i < bytes / 4; i++) {
            x.feed(0x20202020, 4);
        }
        if (bytes % 4 > 0) {
            x.feed(0x20202020, bytes % 4);
        }
        return x;
    }

    static void promise28HundredAndTwentyAreTheMost() {
        for (int n = 1; n <= 4; n++) {
            Edges.due(120, fed(120 - n).feed(0, n));
            Edges.due(119, fed(119 - n).feed(0, n));
        }
    }

    static void promise28MoreIsFull() {
        Edges.refusedBy(() -> fed(120), FULL, x -> x.feed(0, 1), x -> x.feed(0, 4));
        Edges.refusedBy(() -> fed(119), FULL, x -> x.feed(0, 2), x -> x.feed(0, 4));
        Edges.refusedBy(() -> fed(117), FULL, x -> x.feed(0, 4));
    }

    static void promise28BeyondIsAskedAheadOfFull() {
        Edges.refusedBy(() -> fed(120), BEYOND, x -> x.feed(0, 0), x -> x.feed(0, 5), x -> x.feed(0, HIGH));
    }

    /** Not even the bytes for which there would be room are taken. */
    static void promise28AFullOneTakesNothing() {
        GoodsUnderWay x = fed(114);
        x.feed(0x7961, 2);
        x.feed(0x7264, 2);
        x.feed(0x7a7a7a7a, 4);
        Edges.due(118, x.count(5));
        Edges.due(1, x.text());
    }

    static void promise28TheLowestBytesCountTheHighestOfThemFirst() {
        GoodsUnderWay x = new GoodsUnderWay();
        x.feed(0x79617264, 4);
        x.feed(0x7a203b71, 2);
        x.feed(0x7a756179, 3);
        Edges.due(2, x.text());
        Edges.row("kinds", Edges.is(0, 2), x.of(0, 0), x.of(1, 0));
        x.feed(0x7a7a7a76, 1);
        x.feed(0x61756c74, 4);
        Edges.due(1, x.text());
        Edges.due(3, x.of(2, 0));
    }

    static void promise28HighBytesAreBytes() {
        GoodsUnderWay x = new GoodsUnderWay();
        x.feed(0xf9617264, 4);
        Edges.due(-1, x.text());
        x.feed(0x79617264, 4);
        x.feed(0xffffff20, 1);
        x.feed(-1, 1);
        Edges.due(-6, x.text());
        x.feed(-200, 1);
        x.feed(-1, 4);
        Edges.due(-1, x.text());
    }

    static void promise28ThereIsRoomAgainBehindText() {
        GoodsUnderWay x = fed(120);
        x.text();
        Edges.due(4, x.feed(0x79617264, 4));
        Edges.due(1, x.text());
    }

    // ---- 29: wipe

    static void promise29OfAnEmptyOneIs0() {
        GoodsUnderWay x = new GoodsUnderWay();
        Edges.due(0, x.wipe());
        Edges.alike(x, new GoodsUnderWay());
    }

    static void promise29OfAFullOneIs120() {
        GoodsUnderWay x = fed(120);
        Edges.due(120, x.wipe());
        Edges.dues(0, x.count(5), x.wipe());
        Edges.due(1, x.feed(0, 1));
    }

    static void promise29ItIsEmptyThen() {
        GoodsUnderWay x = new GoodsUnderWay();
        Edges.feed(x, "yard");
        Edges.due(4, x.wipe());
        Edges.due(-1, x.text());
        Edges.due(1, Edges.read(x, "shed"));
        Edges.due(1, x.of(0, 0));
    }

    static void promise29NothingElseChanges() {
        GoodsUnderWay x = Edges.rich();
        Edges.due(21, x.wipe());
        Edges.alike(x, Edges.richUnfed());
    }

    // ---- 30: text

    /** Items that are read ahead of it, one text a row. */
    private static GoodsUnderWay behind(String... texts) {
        GoodsUnderWay x = new GoodsUnderWay();
        for (String text : texts) {
            Edges.read(x, text);
        }
        return x;
    }

    /** The text faults there, nothing changes but that the tape is empty, and that is no finding. */
    private static void fault(int place, String text, String... ahead) {
        GoodsUnderWay x = behind(ahead);
        Edges.dueOf("'" + text + "'", -1 - place, Edges.read(x, text));
        Edges.due(0, x.count(5));
        Edges.alike(x, behind(ahead));
    }

    /** The text is read as so many items. */
    private static GoodsUnderWay reads(int items, String text, String... ahead) {
        GoodsUnderWay x = behind(ahead);
        Edges.dueOf("'" + text + "'", items, Edges.read(x, text));
        Edges.dues(0, x.count(5), x.status(-1));
        return x;
    }

    private static final String TWO = "yard;yard";
    private static final String THREE = "yard;yard;yard";
    private static final String FIVE_ROADS = "road 0 1;road 0 1;road 0 1;road 0 1;road 0 1";

    static void promise30AnEmptyTapeEndsTooEarly() {
        fault(0, "");
    }

    static void promise30BlanksAloneEndTooEarly() {
        fault(1, " ");
        fault(7, "       ");
        GoodsUnderWay x = fed(120);
        Edges.due(-121, x.text());
        Edges.due(0, x.status(-1));
    }

    static void promise30BlanksMayStandBetween() {
        Edges.row("of", Edges.is(0, 7, 8), Edges.of(reads(1, "  yard   stock  7   store   8  "), 0, 3));
        Edges.row("its", Edges.is(0, 0, 1, 4, 1), Edges.its(reads(2, " yard ; road  0   1  wide 4 ", "yard"), 0, 5));
    }

    static void promise30BlanksNeedNotStandBetween() {
        Edges.row("of", Edges.is(0, 7, 8), Edges.of(reads(1, "yard stock7store8"), 0, 3));
        GoodsUnderWay x = reads(3, "yard;yard;road0 1wide4long2tide3later5 6");
        Edges.row("its", Edges.is(0, 0, 1, 4, 2, 3, 5, 6), Edges.its(x, 0, 8));
    }

    static void promise30OtherBlanksBeginNoToken() {
        fault(4, "yard\tstock 1");
        fault(4, "yard\n");
        fault(0, "\ryard");
        fault(5, "yard \u00a0");
        fault(4, "yard\u0000");
    }

    static void promise30TokensAreAsLongAsCanBe() {
        fault(0, "yardstock 1");
        fault(0, "yards");
        fault(0, "yarda");
        fault(0, "yardz");
        fault(5, "yard stocks 1");
        fault(0, "yardshed");
        fault(7, "road 01", TWO);
        fault(14, "road 0 1 wide 100", TWO);
    }

    static void promise30WordsAreOfLettersAToZ() {
        fault(0, "Yard");
        fault(0, "yarD");
        fault(0, "yar");
        fault(0, "ard");
        fault(0, "a");
        fault(0, "z");
        fault(4, "yard`");
        fault(4, "yard{");
        fault(4, "yard@");
        fault(4, "yard[");
    }

    static void promise30NumbersAreOfDigits0To9() {
        fault(11, "yard stock /");
        fault(11, "yard stock :");
        fault(11, "yard stock -1");
        fault(11, "yard stock +1");
        fault(12, "yard stock 1.5");
        fault(11, "yard stock one");
        Edges.due(90, reads(1, "yard stock 90").of(0, 1));
    }

    static void promise30NumbersMayBegin0() {
        Edges.due(7, reads(1, "yard stock 007").of(0, 1));
        Edges.due(0, reads(1, "yard stock 0000").of(0, 1));
        Edges.due(999, reads(1, "yard stock 00000000999").of(0, 1));
    }

    static void promise30NumbersAbove999AreAFault() {
        fault(11, "yard stock 1000");
        fault(11, "yard stock 9999");
        fault(17, "road 0 1 later 1 1000", TWO);
    }

    /** So many digits that they would be a small number, if they went round. */
    static void promise30ManyDigitsDoNotGoRound() {
        fault(11, "yard stock 4294967296");
        fault(11, "yard stock 4294967303");
        fault(11, "yard stock 18446744073709551616");
        fault(5, "road 4294967296 1", TWO);
        fault(11, "yard stock " + "9".repeat(109));
    }

    static void promise30EachWordOfAStation() {
        GoodsUnderWay x = reads(4, "yard;shed;quay;vault");
        for (int i = 0; i < 4; i++) {
            Edges.row("of", Edges.is(i, 0, 20), Edges.of(x, i, 3));
        }
    }

    static void promise30EachWordOfALine() {
        GoodsUnderWay x = reads(6, "road 0 1;rail 0 1;ferry 0 1;express 0 1;barge 0 1;pass 0 1", TWO);
        for (int i = 0; i < 6; i++) {
            Edges.row("its", Edges.is(i, 0, 1, 10, 1, 0, 0, 99999), Edges.its(x, i, 8));
        }
    }

    static void promise30StockIs0To999() {
        Edges.due(0, reads(1, "shed stock 0").of(0, 1));
        Edges.due(999, reads(1, "shed stock 999").of(0, 1));
        fault(11, "shed stock 1000");
    }

    static void promise30StoreIs0To99() {
        Edges.due(0, reads(1, "shed store 0").of(0, 2));
        Edges.due(99, reads(1, "shed store 99").of(0, 2));
        fault(11, "shed store 100");
        fault(24, "shed store 9;yard store 100");
    }

    static void promise30StockStandsAheadOfStore() {
        Edges.row("of", Edges.is(1, 5, 6), Edges.of(reads(1, "shed stock 5 store 6"), 0, 3));
        fault(13, "shed store 6 stock 5");
    }

    static void promise30AWordMayStandOnceOnly() {
        fault(13, "yard stock 1 stock 1");
        fault(13, "yard store 1 store 1");
        fault(16, "road 0 1 wide 1 wide 1", TWO);
        fault(16, "road 0 1 long 1 long 1", TWO);
        fault(16, "road 0 1 tide 1 tide 1", TWO);
        fault(19, "road 0 1 later 1 1 later 1 1", TWO);
    }

    static void promise30AStationHasNoWordsOfALine() {
        fault(5, "yard wide 1");
        fault(5, "yard tide 1");
        fault(5, "yard 1");
    }

    static void promise30ALineHasNoWordsOfAStation() {
        fault(9, "road 0 1 stock 1", TWO);
        fault(9, "road 0 1 store 1", TWO);
        fault(9, "road 0 1 1", TWO);
    }

    static void promise30AStationThatIsNotThereIsAFault() {
        fault(5, "road 0 1");
        fault(7, "road 0 1", "yard");
        fault(5, "road 1 0", "yard");
        fault(5, "road 2 0", TWO);
        fault(7, "road 0 2", TWO);
        fault(5, "road 6 0", THREE, THREE);
        fault(5, "road 999 0", THREE, THREE);
        Edges.row("its", Edges.is(0, 5, 0), Edges.its(reads(1, "road 5 0", THREE, THREE), 0, 3));
    }

    static void promise30StationsOfTheSameTextAreThere() {
        Edges.row("its", Edges.is(0, 0, 1), Edges.its(reads(3, "yard;yard;road 0 1"), 0, 3));
        fault(12, "yard;road 0 1;yard");
        fault(21, "yard;road 0 1;road 1 2", "yard");
    }

    static void promise30FromAndToTheSameIsAFault() {
        fault(7, "road 0 0", TWO);
        fault(7, "road 1 1", TWO);
        fault(7, "road 1 01", TWO);
    }

    static void promise30WideIs0To99And10Without() {
        Edges.due(0, reads(1, "road 0 1 wide 0", TWO).its(0, 3));
        Edges.due(99, reads(1, "road 0 1 wide 99", TWO).its(0, 3));
        Edges.due(10, reads(1, "road 0 1", TWO).its(0, 3));
        fault(14, "road 0 1 wide 100", TWO);
    }

    static void promise30LongIs1To9And1Without() {
        Edges.due(1, reads(1, "road 0 1 long 1", TWO).its(0, 4));
        Edges.due(9, reads(1, "road 0 1 long 9", TWO).its(0, 4));
        Edges.due(1, reads(1, "road 0 1", TWO).its(0, 4));
        fault(14, "road 0 1 long 0", TWO);
        fault(14, "road 0 1 long 10", TWO);
    }

    static void promise30TideIs0To5() {
        Edges.due(0, reads(1, "road 0 1 tide 0", TWO).its(0, 5));
        Edges.due(5, reads(1, "road 0 1 tide 5", TWO).its(0, 5));
        Edges.due(0, reads(1, "road 0 1", TWO).its(0, 5));
        fault(14, "road 0 1 tide 6", TWO);
    }

    static void promise30LaterIs0To99() {
        Edges.due(0, reads(1, "road 0 1 later 0 0", TWO).its(0, 6));
        Edges.due(0, reads(1, "road 0 1", TWO).its(0, 6));
        Edges.due(99, reads(1, "road 0 1 later 99 0", TWO).its(0, 6));
        fault(15, "road 0 1 later 100 0", TWO);
    }

    static void promise30ShiftIs0To999() {
        Edges.due(0, reads(1, "road 0 1 later 5 0", TWO).its(0, 7));
        Edges.due(999, reads(1, "road 0 1 later 5 999", TWO).its(0, 7));
        Edges.due(99999, reads(1, "road 0 1", TWO).its(0, 7));
        fault(17, "road 0 1 later 5 1000", TWO);
    }

    static void promise30LaterNeedsTwoNumbers() {
        fault(16, "road 0 1 later 1", TWO);
        fault(16, "road 0 1 later 1;yard", TWO);
        fault(17, "road 0 1 later 1 wide 1", TWO);
        fault(14, "road 0 1 later", TWO);
    }

    static void promise30WordsOfALineStandInTheirOrder() {
        GoodsUnderWay x = reads(1, "pass 1 0 wide 2 long 3 tide 4 later 5 6", TWO);
        Edges.row("its", Edges.is(5, 1, 0, 2, 3, 4, 5, 6), Edges.its(x, 0, 8));
        fault(16, "road 0 1 long 1 wide 1", TWO);
        fault(16, "road 0 1 tide 1 long 1", TWO);
        fault(16, "road 0 1 tide 1 wide 1", TWO);
        fault(19, "road 0 1 later 1 1 tide 1", TWO);
    }

    static void promise30ALineNeedsTwoNumbers() {
        fault(4, "road", TWO);
        fault(5, "road ", TWO);
        fault(6, "road 0", TWO);
        fault(5, "road wide 1", TWO);
        fault(7, "road 0 wide 1", TWO);
        fault(6, "road 0;yard", TWO);
    }

    static void promise30AWordNeedsItsNumber() {
        fault(10, "yard stock");
        fault(12, "yard stock  ");
        fault(11, "yard stock store 1");
        fault(10, "yard stock;yard");
        fault(13, "road 0 1 wide", TWO);
        fault(14, "road 0 1 wide long 1", TWO);
    }

    static void promise30ItemsStandBetweenSigns() {
        fault(5, "yard;");
        fault(7, "yard;  ");
        fault(0, ";yard");
        fault(5, "yard;;yard");
        fault(0, ";");
        fault(5, "yard yard");
        fault(5, "yard road 0 1", TWO);
        fault(4, "yard:yard");
        fault(4, "yard,yard");
    }

    static void promise30AnotherWordIsAFault() {
        fault(0, "stock 1");
        fault(0, "wide");
        fault(5, "yard;yar");
        fault(0, "1");
        fault(5, "yard;5");
    }

    static void promise30ASeventhStationIsAFault() {
        fault(0, "yard", THREE, THREE);
        fault(0, "vault stock 1000", THREE, THREE);
        fault(15, "yard;yard;yard;quay", THREE);
        fault(16, "yard;yard;yard; quay stock 5", THREE);
        Edges.due(6, reads(3, THREE, THREE).count(1));
        Edges.due(6, reads(6, "yard;yard;yard;yard;yard;yard").count(1));
    }

    static void promise30AnEleventhLineIsAFault() {
        fault(0, "road 0 1", TWO, FIVE_ROADS, FIVE_ROADS);
        fault(0, "pass 9 9", TWO, FIVE_ROADS, FIVE_ROADS);
        fault(45, FIVE_ROADS + ";rail 0 1", TWO, FIVE_ROADS);
        Edges.due(10, reads(5, FIVE_ROADS, TWO, FIVE_ROADS).count(2));
        Edges.due(10, reads(10, FIVE_ROADS + ";" + FIVE_ROADS, TWO).count(2));
    }

    static void promise30StationsMayComeWhereLinesAreFull() {
        Edges.due(3, reads(1, "yard", TWO, FIVE_ROADS, FIVE_ROADS).count(1));
        Edges.due(1, reads(1, "road 0 5", THREE, THREE).count(2));
    }

    static void promise30TheFirstFaultCounts() {
        fault(11, "yard stock 1000 store 1000");
        fault(5, "road 9 9", TWO);
        fault(5, "yard;x;y");
        fault(4, "yard? stock 1000");
    }

    static void promise30WithAFaultNothingOfItComes() {
        GoodsUnderWay x = Edges.richUnfed();
        Edges.due(-1 - 26, Edges.read(x, "vault;road 0 4;shed stock x"));
        Edges.alike(x, Edges.richUnfed());
    }

    static void promise30WhatItTellsComesToWhatThereIs() {
        GoodsUnderWay x = Edges.rich();
        GoodsUnderWay twin = Edges.richUnfed();
        Edges.due(2, x.text());
        Edges.due(4, twin.station(0, 7));
        Edges.due(5, twin.line(0, 4, 0, 10, 1));
        Edges.alike(x, twin);
    }

    static void promise30TheTapeIsEmptyThen() {
        GoodsUnderWay x = new GoodsUnderWay();
        Edges.due(1, Edges.read(x, "yard"));
        Edges.due(0, x.wipe());
        Edges.due(-1, x.text());
        Edges.due(-1, Edges.read(x, "?"));
        Edges.dues(0, x.wipe(), x.count(5));
    }

    static void promise30ATapeOf120IsRead() {
        GoodsUnderWay x = new GoodsUnderWay();
        Edges.feed(x, "yard;".repeat(5) + " ".repeat(91) + "quay");
        Edges.due(120, x.count(5));
        Edges.due(6, x.text());
        Edges.due(2, x.of(5, 0));
        Edges.feed(x, " ".repeat(119) + "x");
        Edges.due(-120, x.text());
        Edges.feed(x, "road 0 5" + " ".repeat(107) + ";pass");
        Edges.due(-121, x.text());
    }

    static void promise30GoodsUnderWayStay() {
        GoodsUnderWay x = Edges.pair(50, 0, 9, 2);
        x.send(0, 4);
        Edges.due(1, Edges.read(x, "road 0 1"));
        Edges.due(4, x.its(0, 10));
        Edges.due(4, x.its(0, 11));
        Edges.dues(0, x.its(1, 10), x.its(1, 11));
        x.go(2);
        Edges.due(4, x.of(1, 1));
    }

    static void promise30IsNewWhereAnUndoneOneWas() {
        GoodsUnderWay x = Edges.yards(2);
        x.set(0, 1, 50);
        x.image();
        Edges.read(x, "shed store 99;barge 0 1 wide 5 long 9 later 7 8");
        x.send(0, 5);
        x.undo();
        Edges.due(2, Edges.read(x, "vault;pass 0 1"));
        Edges.row("of", Edges.is(3, 0, 20), Edges.of(x, 2, 3));
        Edges.row("its", Edges.is(5, 0, 1, 10, 1, 0, 0, 99999, 10, 1, 0, 0), Edges.its(x, 0, 12));
    }

    public static void main(String[] args) throws IllegalAccessException, InvocationTargetException {
        Edges.run(EdgesTextsTest.class, 28, 30);
    }
}
