/** Boundary cases of promises 22 and 23: cells and kinds by told ways. */
public final class WaysEdgeTest extends Edge {
    // IRON is pulled by 16, less 2 for each CELL that it is off, and doesn't move.
    private static final String HELD = "cart 8 pace 0; loud 8; iron at 3 held";

    public static void main(String[] args) {
        runAll(WaysEdgeTest.class);
    }

    /** A street with a sheet of so many bits and just these numbers. */
    private static Street told(String street, int s, int bits, int... numbers) {
        return () -> {
            IronCall x = Check.from(street);
            Check.fill(x, s, bits, numbers);
            return x;
        };
    }

    /** 40 numbers, all -1 but the last. */
    private static int[] forty(int last) {
        int[] numbers = new int[40];
        java.util.Arrays.fill(numbers, -1);
        numbers[39] = last;
        return numbers;
    }

    // ---- promise 22: fits

    static void promise22_sheetTooSmall() {
        tells(told(HELD, 0, 16, -1, 8), 1 << 4 | 1 << 12, x -> x.fits(0, 0));
        refused(told(HELD, 0, 16, -1, 8), BEYOND, x -> x.fits(-1, 0));
    }

    static void promise22_sheetTooLarge() {
        tells(told(HELD, 3, 16, -1, 8), 1 << 4 | 1 << 12, x -> x.fits(3, 0));
        refused(told(HELD, 3, 16, -1, 8), BEYOND, x -> x.fits(4, 0));
    }

    static void promise22_sheetIsMissing() {
        refused(told(HELD, 0, 16, -1, 8), MISSING, x -> x.fits(1, 0));
        refused(MISSING, x -> x.fits(3, 0));
    }

    static void promise22_beyondSheetAheadOfAll() {
        refused(Edge::fresh, BEYOND, x -> x.fits(4, 0));
        refused(Edge::fresh, BEYOND, x -> x.fits(-1, -1));
    }

    static void promise22_missingAheadOfBeyondThing() {
        refused(MISSING, x -> x.fits(3, 5));
        refused(MISSING, x -> x.fits(3, -1));
        refused(Edge::fresh, MISSING, x -> x.fits(0, 0));
    }

    static void promise22_thingTooSmall() {
        tells(0, x -> x.fits(0, 0));
        refused(BEYOND, x -> x.fits(0, -1));
    }

    static void promise22_thingTooLarge() {
        tells(0, x -> x.fits(0, 4));
        refused(BEYOND, x -> x.fits(0, 5));
    }

    static void promise22_noThings() {
        IronCall x = new IronCall();
        x.sheet(0, 8, 0);
        due(x.fits(0, 0), BEYOND);
        x.thing(0, 0);
        due(x.fits(0, 0), 65535);
        due(x.fits(0, 1), BEYOND);
    }

    static void promise22_sheetOfNoNumbers() {
        tells(told(HELD, 0, 8), 65535, x -> x.fits(0, 0));
    }

    static void promise22_sheetOf40Numbers() {
        // Number 39 is behind 39 calls.
        tells(told(HELD, 0, 16, forty(8 * 39)), 1 << 4 | 1 << 12, x -> x.fits(0, 0));
        tells(told(HELD, 0, 16, forty(8 * 40)), 0, x -> x.fits(0, 0));
        tells(told(HELD, 0, 16, forty(-1)), 65535, x -> x.fits(0, 0));
    }

    static void promise22_firstNumberIsNow() {
        tells(told(HELD, 0, 16, 0), 65535, x -> x.fits(0, 0));
        tells(told(HELD, 0, 16, 1), 0, x -> x.fits(0, 0));
        tells(told(HELD, 0, 16, 8), 0, x -> x.fits(0, 0));
    }

    static void promise22_minus1IsAnyMinus2IsNone() {
        tells(told(HELD, 0, 16, -1), 65535, x -> x.fits(0, 0));
        tells(told(HELD, 0, 16, -2), 0, x -> x.fits(0, 0));
        tells(told(HELD, 0, 16, -1, -2), 0, x -> x.fits(0, 0));
    }

    static void promise22_255Of8BitsIsAny() {
        String street = "cart 8 pace 0; loud 0; iron at 3 pulled 255 held";
        tells(told(street, 0, 8, 255), 65535, x -> x.fits(0, 0));
        tells(told(street, 0, 8, 255, 255), 65535, x -> x.fits(0, 0));
        tells(told(street, 0, 8, 254), 0, x -> x.fits(0, 0));
        tells(told(street, 0, 16, 255), 65535, x -> x.fits(0, 0));
        tells(told(street, 0, 16, 254), 0, x -> x.fits(0, 0));
        tells(told(street, 0, 16, 65535), 65535, x -> x.fits(0, 0));
        tells(told(street, 0, 32, 65535), 0, x -> x.fits(0, 0));
    }

    static void promise22_cell0Alone() {
        tells(told("cart 0 pace 0; loud 8; iron at 3 held", 0, 16, -1, 16), 1, x -> x.fits(0, 0));
    }

    static void promise22_cell15Alone() {
        tells(told("cart 15 pace 0; loud 8; iron at 3 held", 0, 16, -1, 16), 1 << 15, x -> x.fits(0, 0));
    }

    static void promise22_noneFitsIsNoFinding() {
        tells(told(HELD, 0, 16, -1, 17), 0, x -> x.fits(0, 0));
    }

    static void promise22_takenStays() {
        IronCall x = told(HELD, 0, 16, 0, 0).made();
        due(x.fits(0, 0), 1);
        x.change(0, 5, 1);
        due(x.fits(0, 0), 65535);
    }

    static void promise22_farBeyond() {
        refused(BEYOND, x -> x.fits(LEAST, 0));
        refused(BEYOND, x -> x.fits(GREATEST, 0));
        refused(BEYOND, x -> x.fits(0, LEAST));
        refused(BEYOND, x -> x.fits(0, GREATEST));
    }

    static void promise22_askedAgain() {
        tells(told(HELD, 0, 16, -1, 8), 2 << 4 | 2 << 12, x -> x.fits(0, 0) + x.fits(0, 0));
    }

    // ---- promise 23: kinds

    // With LOUD 3, one CELL off: THING comes in call 9, NEEDLE in 5, IRON in 3, SWORD in 2, BED in 8; GOLD, CROWN never.
    private static final String NEAR = "cart 4 pace 0; loud 3; gold at 5 heavy 10";

    static void promise23_sheetTooSmall() {
        tells(told(NEAR, 0, 16, 5), 127, x -> x.kinds(0, 0));
        refused(told(NEAR, 0, 16, 5), BEYOND, x -> x.kinds(-1, 0));
    }

    static void promise23_sheetTooLarge() {
        tells(told(NEAR, 3, 16, 5), 127, x -> x.kinds(3, 0));
        refused(told(NEAR, 3, 16, 5), BEYOND, x -> x.kinds(4, 0));
    }

    static void promise23_sheetIsMissing() {
        refused(told(NEAR, 0, 16, 5), MISSING, x -> x.kinds(1, 0));
        refused(MISSING, x -> x.kinds(3, 0));
    }

    static void promise23_beyondSheetAheadOfAll() {
        refused(Edge::fresh, BEYOND, x -> x.kinds(4, 0));
        refused(Edge::fresh, BEYOND, x -> x.kinds(-1, -1));
    }

    static void promise23_missingAheadOfBeyondThing() {
        refused(MISSING, x -> x.kinds(3, 5));
        refused(MISSING, x -> x.kinds(3, -1));
        refused(Edge::fresh, MISSING, x -> x.kinds(0, 0));
    }

    static void promise23_thingTooSmall() {
        tells(0, x -> x.kinds(0, 0));
        refused(BEYOND, x -> x.kinds(0, -1));
    }

    static void promise23_thingTooLarge() {
        tells(0, x -> x.kinds(0, 4));
        refused(BEYOND, x -> x.kinds(0, 5));
    }

    static void promise23_noThings() {
        IronCall x = new IronCall();
        x.sheet(0, 8, 0);
        due(x.kinds(0, 0), BEYOND);
        x.thing(0, 0);
        due(x.kinds(0, 0), 127);
        due(x.kinds(0, 1), BEYOND);
    }

    static void promise23_sheetOfNoNumbers() {
        tells(told(NEAR, 0, 8), 127, x -> x.kinds(0, 0));
    }

    static void promise23_sheetOf40Numbers() {
        // A THING of 39 comes in call 38, of 40 in call 39, which is the last that is told.
        String later = "cart 4 pace 0; loud 3; gold at 5 heavy 40";
        tells(told(later, 0, 8, forty(5)), 4 | 64, x -> x.kinds(0, 0));
        tells(told(later, 0, 8, forty(4)), 1 | 2 | 8 | 16 | 32, x -> x.kinds(0, 0));
        String latest = "cart 4 pace 0; loud 3; gold at 5 heavy 41";
        tells(told(latest, 0, 8, forty(5)), 1 | 4 | 64, x -> x.kinds(0, 0));
    }

    static void promise23_firstNumberIsNow() {
        tells(told(NEAR, 0, 8, 5), 127, x -> x.kinds(0, 0));
        tells(told(NEAR, 0, 8, 4), 0, x -> x.kinds(0, 0));
        tells(told(NEAR, 0, 8, 5, 5), 127, x -> x.kinds(0, 0));
        tells(told(NEAR, 0, 8, 5, -1, 4), 8, x -> x.kinds(0, 0));
    }

    static void promise23_minus1IsAnyMinus2IsNone() {
        tells(told(NEAR, 0, 8, -1, -1), 127, x -> x.kinds(0, 0));
        tells(told(NEAR, 0, 8, -2), 0, x -> x.kinds(0, 0));
        tells(told(NEAR, 0, 8, 255), 127, x -> x.kinds(0, 0));
        tells(told(NEAR, 0, 16, 255), 0, x -> x.kinds(0, 0));
    }

    static void promise23_kind0Alone() {
        tells(told(NEAR, 0, 8, 5, 5, 5, 5, 5, 5, 5, 5, 5, 4), 1, x -> x.kinds(0, 0));
    }

    static void promise23_kind6Alone() {
        // In silence a CROWN feels its company.
        tells(told("cart 8 pace 0; loud 0; thing heavy 1; bed", 0, 8, -1, 1), 64, x -> x.kinds(0, 0));
    }

    static void promise23_noneFitsIsNoFinding() {
        tells(told(NEAR, 0, 8, -1, 6), 0, x -> x.kinds(0, 0));
    }

    static void promise23_takenStays() {
        IronCall x = told(NEAR, 0, 8, forty(5)).made();
        due(x.kinds(0, 0), 4 | 64);
        x.change(0, 5, 1);
        due(x.kinds(0, 0), 127);
    }

    static void promise23_farBeyond() {
        refused(BEYOND, x -> x.kinds(LEAST, 0));
        refused(BEYOND, x -> x.kinds(GREATEST, 0));
        refused(BEYOND, x -> x.kinds(0, LEAST));
        refused(BEYOND, x -> x.kinds(0, GREATEST));
    }

    static void promise23_askedAgain() {
        tells(told(NEAR, 0, 8, 5, -1, 4), 16, x -> x.kinds(0, 0) + x.kinds(0, 0));
    }
}
