/** Boundary cases of promises 30 to 36: spots, sheets. */
public final class SheetsEdgeTest extends Edge {
    public static void main(String[] args) {
        runAll(SheetsEdgeTest.class);
    }

    // ---- promise 30: hold

    static void promise30_spotTooSmall() {
        IronCall x = lived();
        due(x.hold(0, 4), 1);
        due(x.as(0, 6), 4);
        due(x.count(7), 3);
        refused(BEYOND, y -> y.hold(-1, 4));
        refused(BEYOND, y -> y.hold(-1, -1));
    }

    static void promise30_spotTooLarge() {
        IronCall x = lived();
        due(x.hold(9, 4), 1);
        due(x.as(9, 6), 4);
        due(x.count(7), 2);
        refused(BEYOND, y -> y.hold(10, 4));
        refused(BEYOND, y -> y.hold(10, -1));
    }

    static void promise30_thingTooSmall() {
        IronCall x = lived();
        due(x.hold(7, -1), 1);
        due(x.as(7, 0), MISSING);
        due(x.count(7), 1);
        refused(BEYOND, y -> y.hold(7, -2));
        refused(BEYOND, y -> y.hold(0, -2));
    }

    static void promise30_thingTooLarge() {
        IronCall x = lived();
        due(x.hold(7, 4), 1);
        due(x.as(7, 6), 4);
        refused(BEYOND, y -> y.hold(7, 5));
        refused(Edge::full, BEYOND, y -> y.hold(7, 8));
    }

    static void promise30_firstThing() {
        IronCall x = lived();
        due(x.hold(7, 0), 1);
        due(x.as(7, 1), 0);
    }

    static void promise30_noThings() {
        refused(Edge::fresh, BEYOND, x -> x.hold(0, 0));
        tells(Edge::fresh, 1, x -> x.hold(0, -1));
    }

    static void promise30_nothingElseChanges() {
        IronCall x = lived();
        IronCall twin = lived();
        due(x.of(4, 4), 0);
        due(x.hold(0, 4), 1);
        due(x.of(4, 4), 0);
        due(x.hold(0, -1), 1);
        same(x, twin);
    }

    static void promise30_nothingAgain() {
        tells(1, x -> x.hold(0, -1));
    }

    static void promise30_theSameAgainAndInTwoSpots() {
        tells(1, x -> x.hold(7, 3));
        IronCall x = lived();
        due(x.hold(8, 3), 1);
        due(x.as(8, 4), 3);
        due(x.as(7, 4), 3);
        due(x.count(7), 3);
    }

    static void promise30_allTen() {
        IronCall x = full();
        due(x.count(7), 10);
        tells(Edge::full, 1, y -> y.hold(9, 1));
        for (int spot = 0; spot < 10; spot++) {
            due(x.hold(spot, -1), 1);
        }
        due(x.count(7), 0);
    }

    static void promise30_takenThing() {
        IronCall x = lived();
        due(x.of(3, 5), 1);
        due(x.hold(0, 3), 1);
        due(x.as(0, 4), 3);
    }

    static void promise30_farBeyond() {
        refused(BEYOND, x -> x.hold(LEAST, 0));
        refused(BEYOND, x -> x.hold(GREATEST, 0));
        refused(BEYOND, x -> x.hold(0, LEAST));
        refused(BEYOND, x -> x.hold(0, GREATEST));
    }

    // ---- promise 31: as

    static void promise31_spotTooSmall() {
        tells(Edge::full, 0, x -> x.as(0, 0));
        refused(Edge::full, BEYOND, x -> x.as(-1, 0));
        refused(BEYOND, x -> x.as(-1, 0));
    }

    static void promise31_spotTooLarge() {
        tells(Edge::full, 1, x -> x.as(9, 0));
        refused(Edge::full, BEYOND, x -> x.as(10, 0));
        refused(BEYOND, x -> x.as(10, 0));
    }

    static void promise31_kindTooSmall() {
        tells(3, x -> x.as(7, 0));
        refused(BEYOND, x -> x.as(7, -1));
    }

    static void promise31_kindTooLarge() {
        tells(Edge::full, 6, x -> x.as(6, 6));
        refused(Edge::full, BEYOND, x -> x.as(6, 7));
    }

    static void promise31_nothingIsMissing() {
        refused(MISSING, x -> x.as(0, 0));
        refused(MISSING, x -> x.as(0, 6));
        refused(MISSING, x -> x.as(8, 3));
    }

    static void promise31_beyondAheadOfMissing() {
        refused(BEYOND, x -> x.as(0, 7));
        refused(BEYOND, x -> x.as(0, -1));
        refused(BEYOND, x -> x.as(10, 7));
    }

    static void promise31_eachKindAsEach() {
        // By kind: those it is one of, as bits.
        int[] due = {1, 1 | 2, 1 | 4, 1 | 2 | 8, 1 | 2 | 8 | 16, 1 | 32, 1 | 4 | 64};
        for (int kind = 0; kind < 7; kind++) {
            int spot = kind;
            for (int asked = 0; asked < 7; asked++) {
                int as = asked;
                if ((due[kind] >> asked & 1) == 1) {
                    tells(Edge::full, kind, x -> x.as(spot, as));
                } else {
                    refused(Edge::full, KIND, x -> x.as(spot, as));
                }
            }
        }
    }

    static void promise31_asItIsNow() {
        IronCall x = full();
        due(x.as(4, 4), 4);
        x.change(4, 0, 3);
        due(x.as(4, 4), KIND);
        due(x.as(4, 3), 4);
    }

    static void promise31_farBeyond() {
        refused(BEYOND, x -> x.as(LEAST, 0));
        refused(BEYOND, x -> x.as(GREATEST, 0));
        refused(BEYOND, x -> x.as(7, LEAST));
        refused(BEYOND, x -> x.as(7, GREATEST));
    }

    // ---- promise 32: sheet

    /** It has as many numbers as are told, all 0: each, brought to its begin, is the CELL of thing 0. */
    private static void isNew(IronCall x, int s, int n) {
        x.change(0, 1, 0);
        for (int i = 0; i < n; i++) {
            due(x.copy(s, i, s, 0, 1), 1);
            due(x.judge(s) == 1 ? 1 : 0, 0);
        }
        due(x.write(s, n, 0), BEYOND);
    }

    static void promise32_sheetTooSmall() {
        IronCall x = lived();
        due(x.sheet(0, 16, 2), 2);
        isNew(x, 0, 2);
        refused(BEYOND, y -> y.sheet(-1, 16, 2));
    }

    static void promise32_sheetTooLarge() {
        IronCall x = lived();
        due(x.sheet(3, 16, 2), 2);
        isNew(x, 3, 2);
        refused(BEYOND, y -> y.sheet(4, 16, 2));
    }

    static void promise32_eachOfItsBits() {
        int[] bits = {8, 16, 32};
        for (int b : bits) {
            IronCall x = lived();
            due(x.sheet(0, b, 3), 3);
            isNew(x, 0, 3);
        }
    }

    static void promise32_otherBits() {
        int[] others = {-8, -1, 1, 7, 9, 15, 17, 24, 31, 33, 40, 64, LEAST, GREATEST};
        for (int bits : others) {
            refused(BEYOND, x -> x.sheet(0, bits, 2));
        }
    }

    static void promise32_nTooSmall() {
        int[] bits = {8, 16, 32};
        for (int b : bits) {
            IronCall x = lived();
            due(x.sheet(0, b, 0), 0);
            isNew(x, 0, 0);
            due(x.judge(0), 0);
            refused(SIZE, y -> y.sheet(0, b, -1));
            refused(SIZE, y -> y.sheet(0, b, LEAST));
        }
    }

    static void promise32_nTooSmallWithBits0() {
        IronCall x = lived();
        due(x.sheet(0, 0, 0), 0);
        due(x.judge(0), MISSING);
        refused(SIZE, y -> y.sheet(0, 0, -1));
        refused(SIZE, y -> y.sheet(3, 0, LEAST));
    }

    static void promise32_nTooLarge() {
        int[] bits = {8, 16, 32};
        for (int b : bits) {
            IronCall x = lived();
            due(x.sheet(0, b, 40), 40);
            isNew(x, 0, 40);
            refused(BEYOND, y -> y.sheet(0, b, 41));
            refused(BEYOND, y -> y.sheet(0, b, GREATEST));
        }
    }

    static void promise32_nTooLargeWithBits0() {
        IronCall x = lived();
        due(x.sheet(0, 0, 40), 0);
        due(x.judge(0), MISSING);
        refused(BEYOND, y -> y.sheet(0, 0, 41));
        refused(BEYOND, y -> y.sheet(3, 0, GREATEST));
    }

    static void promise32_beyondAheadOfSize() {
        refused(BEYOND, x -> x.sheet(4, 8, -1));
        refused(BEYOND, x -> x.sheet(-1, 0, -1));
        refused(BEYOND, x -> x.sheet(0, 9, -1));
    }

    static void promise32_missingAndAgain() {
        IronCall x = lived();
        due(x.sheet(0, 0, 3), 0);
        due(x.write(0, 0, 1), MISSING);
        due(x.sheet(0, 0, 3), 0);
        due(x.sheet(0, 8, 3), 3);
        isNew(x, 0, 3);
    }

    static void promise32_ofAFormerOneNothingStays() {
        IronCall x = new IronCall();
        x.thing(0, 0);
        x.sheet(2, 32, 40);
        for (int i = 0; i < 40; i++) {
            x.write(2, i, 50 + i);
        }
        due(x.sheet(2, 32, 2), 2);
        due(x.sheet(2, 32, 40), 40);
        isNew(x, 2, 40);
    }

    static void promise32_othersStay() {
        IronCall x = lived();
        due(x.sheet(1, 0, 0), 0);
        due(x.load(0), 3);
        thingIs(x, 0, 1, 6, 11);
        due(x.load(2), 1);
        thingIs(x, 0, 1, 6, 31);
        due(x.load(1), MISSING);
    }

    // ---- promise 33: write

    private static IronCall forty() {
        IronCall x = Check.from("bed at 3");
        x.sheet(0, 8, 40);
        x.sheet(1, 16, 1);
        x.sheet(2, 32, 0);
        return x;
    }

    static void promise33_iTooSmall() {
        IronCall x = lived();
        due(x.write(0, 0, 99), 1);
        due(x.load(0), 3);
        thingIs(x, 0, 1, 6, 99);
        refused(BEYOND, y -> y.write(0, -1, 99));
    }

    static void promise33_iTooLarge() {
        IronCall x = lived();
        due(x.write(0, 2, 99), 1);
        due(x.load(0), 3);
        thingIs(x, 2, 5, 12, 99);
        refused(BEYOND, y -> y.write(0, 3, 99));
    }

    static void promise33_iOf40And1And0Numbers() {
        IronCall x = forty();
        due(x.write(0, 39, 7), 1);
        due(x.write(1, 0, 7), 1);
        refused(SheetsEdgeTest::forty, BEYOND, y -> y.write(0, 40, 7));
        refused(SheetsEdgeTest::forty, BEYOND, y -> y.write(1, 1, 7));
        refused(SheetsEdgeTest::forty, BEYOND, y -> y.write(2, 0, 7));
        refused(SheetsEdgeTest::forty, BEYOND, y -> y.write(2, -1, 7));
    }

    static void promise33_sheetTooSmall() {
        due(lived().write(0, 0, 5), 1);
        refused(BEYOND, x -> x.write(-1, 0, 5));
    }

    static void promise33_sheetTooLarge() {
        IronCall x = lived();
        x.sheet(3, 8, 1);
        due(x.write(3, 0, 5), 1);
        due(x.load(3), 1);
        refused(BEYOND, y -> y.write(4, 0, 5));
    }

    static void promise33_sheetIsMissing() {
        refused(MISSING, x -> x.write(3, 0, 5));
    }

    static void promise33_findingsInTheirOrder() {
        refused(BEYOND, x -> x.write(4, -1, 5));
        refused(MISSING, x -> x.write(3, -1, 5));
        refused(MISSING, x -> x.write(3, 40, 5));
    }

    static void promise33_farBeyond() {
        refused(BEYOND, x -> x.write(LEAST, 0, 5));
        refused(BEYOND, x -> x.write(GREATEST, 0, 5));
        refused(BEYOND, x -> x.write(0, LEAST, 5));
        refused(BEYOND, x -> x.write(0, GREATEST, 5));
    }

    /** Whether a number so written is told as what a thing is PULLED, or as any (-1). */
    private static void told(int bits, int written, int pulled, boolean isSo) {
        IronCall x = new IronCall();
        x.thing(5, 3);
        x.change(0, 3, pulled);
        x.sheet(0, bits, 1);
        due(x.write(0, 0, written), 1);
        due(x.fits(0, 0), isSo ? 65535 : 0);
    }

    static void promise33_lowest8BitsWithTheirSign() {
        told(8, 127, 127, true);
        told(8, 128, 128, false);
        told(8, 254, 254, false);
        told(8, 255, 0, true);
        told(8, 255, 999, true);
        told(8, 256, 0, true);
        told(8, 256, 256, false);
        told(8, 256 + 127, 127, true);
        told(8, -1, 7, true);
        told(8, -129, 127, true);
        told(8, LEAST, 0, true);
        told(8, GREATEST, 7, true);
    }

    static void promise33_lowest16BitsWithTheirSign() {
        told(16, 128, 128, true);
        told(16, 255, 255, true);
        told(16, 255, 254, false);
        told(16, 256, 256, true);
        told(16, 65535, 7, true);
        told(16, 65534, 7, false);
        told(16, 65536, 0, true);
        told(16, 65536 + 999, 999, true);
        told(16, 32768 + 9, 9, false);
        told(16, -65536 + 9, 9, true);
        told(16, -1, 7, true);
        told(16, LEAST, 0, true);
        told(16, GREATEST, 7, true);
    }

    static void promise33_all32Bits() {
        told(32, 999, 999, true);
        told(32, 255, 254, false);
        told(32, 65535, 7, false);
        told(32, 65536, 0, false);
        told(32, -1, 7, true);
        told(32, LEAST, 0, false);
        told(32, GREATEST, 7, false);
    }

    // ---- promise 34: copy

    /** Sheets 0 and 1 of 8 bits with five numbers and four, sheet 2 of 16 bits with two; sheet 3 is missing. */
    private static IronCall rows() {
        IronCall x = Check.from("bed at 3; bed at 4; bed at 5");
        Check.fill(x, 0, 8, 11, 12, 13, 14, 15);
        Check.fill(x, 1, 8, 21, 22, 23, 24);
        Check.fill(x, 2, 16, 31, 32);
        return x;
    }

    /** A sheet's numbers, each 1 to 99, looked at by loading; it has no more. */
    private static void rowIs(IronCall x, int s, int... numbers) {
        for (int i = 0; i < numbers.length; i++) {
            due(x.copy(s, i, s, 0, 1), 1);
            x.load(s);
            due(x.of(0, 2), numbers[i]);
        }
        due(x.write(s, numbers.length, 0), BEYOND);
    }

    static void promise34_allAndOneMore() {
        IronCall x = rows();
        due(x.copy(1, 0, 0, 1, 4), 4);
        rowIs(x, 0, 11, 21, 22, 23, 24);
        rowIs(x, 1, 21, 22, 23, 24);
        refused(SheetsEdgeTest::rows, BEYOND, y -> y.copy(1, 0, 0, 1, 5));
        refused(SheetsEdgeTest::rows, BEYOND, y -> y.copy(1, 0, 0, 0, 5));
        refused(SheetsEdgeTest::rows, BEYOND, y -> y.copy(0, 0, 1, 0, 5));
    }

    static void promise34_fromTooSmall() {
        IronCall x = rows();
        due(x.copy(0, 0, 1, 1, 1), 1);
        rowIs(x, 1, 21, 11, 23, 24);
        refused(SheetsEdgeTest::rows, BEYOND, y -> y.copy(0, -1, 1, 1, 1));
        refused(SheetsEdgeTest::rows, BEYOND, y -> y.copy(0, -1, 1, 1, 0));
    }

    static void promise34_fromTooLarge() {
        IronCall x = rows();
        due(x.copy(0, 4, 1, 1, 1), 1);
        rowIs(x, 1, 21, 15, 23, 24);
        refused(SheetsEdgeTest::rows, BEYOND, y -> y.copy(0, 5, 1, 1, 1));
        refused(SheetsEdgeTest::rows, BEYOND, y -> y.copy(0, 4, 1, 1, 2));
    }

    static void promise34_toTooSmall() {
        IronCall x = rows();
        due(x.copy(0, 1, 1, 0, 1), 1);
        rowIs(x, 1, 12, 22, 23, 24);
        refused(SheetsEdgeTest::rows, BEYOND, y -> y.copy(0, 1, 1, -1, 1));
        refused(SheetsEdgeTest::rows, BEYOND, y -> y.copy(0, 1, 1, -1, 0));
    }

    static void promise34_toTooLarge() {
        IronCall x = rows();
        due(x.copy(0, 1, 1, 3, 1), 1);
        rowIs(x, 1, 21, 22, 23, 12);
        refused(SheetsEdgeTest::rows, BEYOND, y -> y.copy(0, 1, 1, 4, 1));
        refused(SheetsEdgeTest::rows, BEYOND, y -> y.copy(0, 1, 1, 3, 2));
    }

    static void promise34_nTooSmall() {
        tells(SheetsEdgeTest::rows, 0, x -> x.copy(0, 1, 1, 1, 0));
        refused(SheetsEdgeTest::rows, BEYOND, x -> x.copy(0, 1, 1, 1, -1));
        refused(SheetsEdgeTest::rows, BEYOND, x -> x.copy(0, 1, 1, 1, LEAST));
    }

    static void promise34_noneFromTheEnd() {
        tells(SheetsEdgeTest::rows, 0, x -> x.copy(0, 5, 1, 4, 0));
        refused(SheetsEdgeTest::rows, BEYOND, x -> x.copy(0, 6, 1, 4, 0));
        refused(SheetsEdgeTest::rows, BEYOND, x -> x.copy(0, 5, 1, 5, 0));
    }

    static void promise34_sheetsOfNoNumbers() {
        IronCall x = new IronCall();
        x.sheet(0, 8, 0);
        x.sheet(1, 8, 0);
        due(x.copy(0, 0, 1, 0, 0), 0);
        due(x.copy(0, 0, 1, 0, 1), BEYOND);
    }

    static void promise34_all40() {
        IronCall x = new IronCall();
        x.thing(0, 0);
        x.sheet(0, 32, 40);
        x.sheet(3, 32, 40);
        for (int i = 0; i < 40; i++) {
            x.write(0, i, 50 + i);
        }
        due(x.copy(0, 0, 3, 0, 41), BEYOND);
        due(x.load(3), 0);
        due(x.copy(0, 0, 3, 0, 40), 40);
        int[] numbers = new int[40];
        for (int i = 0; i < 40; i++) {
            numbers[i] = 50 + i;
        }
        rowIs(x, 3, numbers);
    }

    static void promise34_onwardInItself() {
        IronCall x = rows();
        due(x.copy(0, 0, 0, 1, 4), 4);
        rowIs(x, 0, 11, 11, 12, 13, 14);
        refused(SheetsEdgeTest::rows, BEYOND, y -> y.copy(0, 0, 0, 1, 5));
    }

    static void promise34_backInItself() {
        IronCall x = rows();
        due(x.copy(0, 1, 0, 0, 4), 4);
        rowIs(x, 0, 12, 13, 14, 15, 15);
        refused(SheetsEdgeTest::rows, BEYOND, y -> y.copy(0, 1, 0, 0, 5));
    }

    static void promise34_wholeOntoItself() {
        tells(SheetsEdgeTest::rows, 5, x -> x.copy(0, 0, 0, 0, 5));
    }

    static void promise34_firstSheetTooSmallOrTooLarge() {
        due(rows().copy(0, 0, 1, 0, 1), 1);
        refused(SheetsEdgeTest::rows, BEYOND, x -> x.copy(-1, 0, 1, 0, 1));
        refused(SheetsEdgeTest::rows, BEYOND, x -> x.copy(4, 0, 1, 0, 1));
        refused(SheetsEdgeTest::rows, MISSING, x -> x.copy(3, 0, 1, 0, 1));
    }

    static void promise34_secondSheetTooSmallOrTooLarge() {
        due(rows().copy(1, 0, 0, 0, 1), 1);
        refused(SheetsEdgeTest::rows, BEYOND, x -> x.copy(1, 0, -1, 0, 1));
        refused(SheetsEdgeTest::rows, BEYOND, x -> x.copy(1, 0, 4, 0, 1));
        refused(SheetsEdgeTest::rows, MISSING, x -> x.copy(1, 0, 3, 0, 1));
    }

    static void promise34_beyondSheetAheadOfMissing() {
        refused(SheetsEdgeTest::rows, BEYOND, x -> x.copy(3, 0, 4, 0, 1));
        refused(SheetsEdgeTest::rows, BEYOND, x -> x.copy(4, 0, 3, 0, 1));
        refused(SheetsEdgeTest::rows, BEYOND, x -> x.copy(3, 0, -1, 0, 1));
    }

    static void promise34_missingAheadOfKindAndBeyond() {
        refused(SheetsEdgeTest::rows, MISSING, x -> x.copy(3, 0, 2, 0, 99));
        refused(SheetsEdgeTest::rows, MISSING, x -> x.copy(2, -1, 3, 0, 1));
        refused(SheetsEdgeTest::rows, MISSING, x -> x.copy(3, 0, 3, 0, 0));
    }

    static void promise34_otherBits() {
        refused(SheetsEdgeTest::rows, KIND, x -> x.copy(0, 0, 2, 0, 1));
        refused(SheetsEdgeTest::rows, KIND, x -> x.copy(2, 0, 0, 0, 1));
        refused(SheetsEdgeTest::rows, KIND, x -> x.copy(2, 0, 0, 0, 0));
        refused(KIND, x -> x.copy(1, 0, 2, 0, 1));
    }

    static void promise34_kindAheadOfBeyond() {
        refused(SheetsEdgeTest::rows, KIND, x -> x.copy(0, 0, 2, 0, 3));
        refused(SheetsEdgeTest::rows, KIND, x -> x.copy(0, -1, 2, 0, 1));
        refused(SheetsEdgeTest::rows, KIND, x -> x.copy(0, 0, 2, 0, -1));
    }

    static void promise34_sumsBeyondTheInts() {
        refused(SheetsEdgeTest::rows, BEYOND, x -> x.copy(0, GREATEST, 1, 0, 1));
        refused(SheetsEdgeTest::rows, BEYOND, x -> x.copy(0, 0, 1, GREATEST, 1));
        refused(SheetsEdgeTest::rows, BEYOND, x -> x.copy(0, 1, 1, 1, GREATEST));
        refused(SheetsEdgeTest::rows, BEYOND, x -> x.copy(0, GREATEST, 1, GREATEST, GREATEST));
        refused(SheetsEdgeTest::rows, BEYOND, x -> x.copy(0, LEAST, 1, LEAST, LEAST));
        refused(SheetsEdgeTest::rows, BEYOND, x -> x.copy(LEAST, 0, GREATEST, 0, 1));
    }

    // ---- promise 35: load

    private static IronCall loaded(int bits, int... numbers) {
        IronCall x = rows();
        Check.fill(x, 3, bits, numbers);
        return x;
    }

    private static void heaviesAre(IronCall x, int... heavies) {
        for (int thing = 0; thing < heavies.length; thing++) {
            due(x.of(thing, 2), heavies[thing]);
        }
    }

    static void promise35_number0And1() {
        IronCall x = loaded(8, 1, 1, 0);
        due(x.load(3), 2);
        heaviesAre(x, 1, 1, 10);
        tells(() -> loaded(8, 0, 1, 1), 0, y -> y.load(3));
    }

    static void promise35_number99And100() {
        IronCall x = loaded(8, 99, 99, 100);
        due(x.load(3), 2);
        heaviesAre(x, 99, 99, 10);
        tells(() -> loaded(8, 100, 1, 1), 0, y -> y.load(3));
    }

    static void promise35_numbersBelow0() {
        tells(() -> loaded(8, 255, 1, 1), 0, x -> x.load(3));
        tells(() -> loaded(32, LEAST, 1, 1), 0, x -> x.load(3));
        tells(() -> loaded(32, GREATEST, 1, 1), 0, x -> x.load(3));
    }

    static void promise35_endsAtTheFirst() {
        IronCall x = loaded(16, 5, 0, 7);
        due(x.load(3), 1);
        heaviesAre(x, 5, 10, 10);
    }

    static void promise35_noThingForANumber() {
        IronCall x = loaded(16, 5, 6, 7);
        due(x.load(3), 3);
        heaviesAre(x, 5, 6, 7);
        IronCall y = loaded(16, 6, 7, 8, 9);
        due(y.load(3), 3);
        heaviesAre(y, 6, 7, 8);
        due(y.count(1), 3);
        due(y.status(-1), 0);
    }

    static void promise35_noThings() {
        IronCall x = new IronCall();
        Check.fill(x, 0, 8, 5);
        due(x.load(0), 0);
        due(x.status(-1), 0);
    }

    static void promise35_eightThings() {
        IronCall x = full();
        Check.fill(x, 0, 8, 1, 2, 3, 4, 5, 6, 7, 8, 9);
        due(x.load(0), 8);
        heaviesAre(x, 1, 2, 3, 4, 5, 6, 7, 8);
    }

    static void promise35_sheetOfNoNumbersAndOf40() {
        tells(() -> loaded(8), 0, x -> x.load(3));
        int[] forty = new int[40];
        java.util.Arrays.fill(forty, 9);
        IronCall x = loaded(8, forty);
        due(x.load(3), 3);
        heaviesAre(x, 9, 9, 9);
    }

    static void promise35_sheetTooSmall() {
        due(rows().load(0), 3);
        refused(BEYOND, x -> x.load(-1));
    }

    static void promise35_sheetTooLarge() {
        due(loaded(8, 9).load(3), 1);
        refused(BEYOND, x -> x.load(4));
    }

    static void promise35_sheetIsMissing() {
        refused(MISSING, x -> x.load(3));
    }

    static void promise35_farBeyond() {
        refused(BEYOND, x -> x.load(LEAST));
        refused(BEYOND, x -> x.load(GREATEST));
    }

    static void promise35_takenThingsToo() {
        IronCall x = loaded(8, 7, 8, 9);
        x.change(1, 5, 1);
        due(x.load(3), 3);
        heaviesAre(x, 7, 8, 9);
    }

    // ---- promise 36: judge

    static void promise36_allSo() {
        tells(() -> loaded(8, 3, 4, 5), 0, x -> x.judge(3));
        tells(() -> loaded(32, 3, 4, 5), 0, x -> x.judge(3));
    }

    static void promise36_firstIsNotSo() {
        tells(() -> loaded(8, 4, 4, 5), 1, x -> x.judge(3));
        tells(() -> loaded(8, 2, 0, 0), 1, x -> x.judge(3));
    }

    static void promise36_lastIsNotSo() {
        tells(() -> loaded(8, 3, 4, 6), 3, x -> x.judge(3));
    }

    static void promise36_firstOfSeveral() {
        tells(() -> loaded(8, 3, 9, 9), 2, x -> x.judge(3));
    }

    static void promise36_noThingForANumber() {
        tells(() -> loaded(8, 3, 4, 5, 0), 4, x -> x.judge(3));
        tells(() -> loaded(8, 3, 4, 5, -1), 4, x -> x.judge(3));
    }

    static void promise36_fewerNumbersThanThings() {
        tells(() -> loaded(8, 3, 4), 0, x -> x.judge(3));
        tells(() -> loaded(8), 0, x -> x.judge(3));
    }

    static void promise36_noThings() {
        IronCall x = new IronCall();
        x.sheet(0, 8, 0);
        due(x.judge(0), 0);
        x.sheet(0, 8, 1);
        due(x.judge(0), 1);
        due(x.status(-1), 0);
    }

    static void promise36_cell0And15() {
        IronCall x = Check.from("bed; bed at 15");
        Check.fill(x, 0, 8, 0, 15);
        due(x.judge(0), 0);
        Check.fill(x, 0, 8, 0, 16);
        due(x.judge(0), 2);
        Check.fill(x, 0, 8, -1, 15);
        due(x.judge(0), 1);
    }

    static void promise36_sheetOf40Numbers() {
        int[] forty = new int[40];
        forty[0] = 3;
        forty[1] = 4;
        forty[2] = 5;
        tells(() -> loaded(8, forty), 4, x -> x.judge(3));
    }

    static void promise36_eightThings() {
        IronCall x = full();
        Check.fill(x, 0, 8, 15, 13, 11, 9, 7, 5, 3, 1);
        due(x.judge(0), 0);
        Check.fill(x, 0, 8, 15, 13, 11, 9, 7, 5, 3, 1, 0);
        due(x.judge(0), 9);
        Check.fill(x, 0, 8, 15, 13, 11, 9, 7, 5, 3, 2);
        due(x.judge(0), 8);
    }

    static void promise36_takenOrNot() {
        IronCall x = loaded(8, 3, 4, 5);
        x.change(1, 5, 1);
        due(x.judge(3), 0);
    }

    static void promise36_sheetTooSmall() {
        tells(SheetsEdgeTest::rows, 1, x -> x.judge(0));
        refused(SheetsEdgeTest::rows, BEYOND, x -> x.judge(-1));
    }

    static void promise36_sheetTooLarge() {
        tells(() -> loaded(8, 3), 0, x -> x.judge(3));
        refused(BEYOND, x -> x.judge(4));
    }

    static void promise36_sheetIsMissing() {
        refused(MISSING, x -> x.judge(3));
    }

    static void promise36_farBeyond() {
        refused(BEYOND, x -> x.judge(LEAST));
        refused(BEYOND, x -> x.judge(GREATEST));
    }
}
