/** Boundary cases of promises 24 to 26: calls by draws, odds, seed. */
public final class DrawsEdgeTest extends Edge {
    public static void main(String[] args) {
        runAll(DrawsEdgeTest.class);
    }

    // ---- promise 24: calls

    private static int drawn(int z, int draws) {
        int drawn = z;
        for (int i = 0; i < draws; i++) {
            drawn = drawn * 1103515245 + 12345;
        }
        return drawn;
    }

    static void promise24_nTooSmall() {
        IronCall x = lived();
        x.calls(1);
        due(x.count(0), 6);
        due(x.count(6), drawn(77, 2));
        refused(BEYOND, y -> y.calls(0));
        refused(BEYOND, y -> y.calls(-1));
    }

    static void promise24_nTooLarge() {
        IronCall x = lived();
        x.calls(20);
        due(x.count(0), 25);
        due(x.count(6), drawn(77, 40));
        refused(BEYOND, y -> y.calls(21));
    }

    static void promise24_farBeyond() {
        refused(BEYOND, x -> x.calls(LEAST));
        refused(BEYOND, x -> x.calls(GREATEST));
    }

    private static void draws(int seed, int cell, int loud) {
        IronCall x = Check.from("cart 7 pace 0");
        x.seed(seed);
        due(x.calls(1), 0);
        due(x.cart(0), cell);
        due(x.cart(3), loud);
    }

    static void promise24_drawnCell0() {
        draws(0, 0, 15);
    }

    static void promise24_drawnCell15() {
        draws(21, 15, 8);
    }

    static void promise24_drawnLoud0() {
        draws(40, 1, 0);
    }

    static void promise24_drawnLoud20() {
        draws(44, 10, 20);
    }

    static void promise24_wayTurnsWhereItIsDrawnTo() {
        // Drawn to CELL 15 and to CELL 0; the WAY turns ahead of the first CELL that it goes.
        IronCall x = Check.from("cart 7");
        x.seed(21);
        x.calls(1);
        cartIs(x, 14, 0, 1, 8);
        x.seed(0);
        x.calls(1);
        cartIs(x, 1, 1, 1, 15);
    }

    static void promise24_noThings() {
        IronCall x = new IronCall();
        due(x.calls(20), 0);
        due(x.count(0), 20);
    }

    static void promise24_takenBeforeAreTold() {
        IronCall x = Check.from("bed held; bed held");
        x.change(1, 5, 1);
        due(x.calls(1), 2);
    }

    static void promise24_manyAreOneByOne() {
        IronCall x = lived();
        IronCall y = lived();
        int taken = x.calls(20);
        for (int i = 1; i < 20; i++) {
            y.calls(1);
        }
        due(y.calls(1), taken);
        same(x, y);
    }

    /** Behind the 512th call, where nothing is promised: the last CALL that is taken, the first that is refused. */
    static void promise24_stateAbove99999() {
        IronCall x = CallsEdgeTest.late();
        x.go(19);
        due(x.count(0), 99979);
        due(x.calls(21), BEYOND);
        due(x.calls(20), 0);
        due(x.count(0), 99999);
        int z = x.count(6);
        due(z, drawn(1, 40));
        due(x.calls(1), STATE);
        due(x.calls(20), STATE);
        due(x.status(4), 2);
        due(x.count(0), 99999);
        due(x.count(6), z);
        due(x.calls(0), BEYOND);
        IronCall y = CallsEdgeTest.late();
        y.go(20);
        due(y.calls(20), STATE);
        due(y.count(0), 99980);
        due(y.count(6), 1);
        due(y.calls(19), 0);
        due(y.count(0), 99999);
    }

    // ---- promise 25: odds

    private static void odds(Street street, int thing, int v, int n, long above, long below) {
        tells(street, above, x -> x.odds(thing, v, n, 0));
        tells(street, below, x -> x.odds(thing, v, n, 1));
    }

    private static IronCall thingAt3() {
        return Check.from("loud 8; thing at 3");
    }

    static void promise25_vTooSmall() {
        odds(DrawsEdgeTest::thingAt3, 0, 0, 15, 1, 1);
        refused(BEYOND, x -> x.odds(0, -1, 1, 0));
        refused(BEYOND, x -> x.odds(0, -1, 1, 1));
    }

    static void promise25_vTooLarge() {
        odds(DrawsEdgeTest::thingAt3, 0, 99, 1, 0, 1);
        refused(BEYOND, x -> x.odds(0, 100, 1, 0));
        refused(BEYOND, x -> x.odds(0, 100, 1, 1));
    }

    static void promise25_justAsMuch() {
        odds(DrawsEdgeTest::thingAt3, 0, 8, 1, 1, 16);
        odds(DrawsEdgeTest::thingAt3, 0, 9, 1, 0, 1);
    }

    static void promise25_nTooSmall() {
        odds(DrawsEdgeTest::thingAt3, 0, 8, 0, 1, 1);
        refused(BEYOND, x -> x.odds(0, 8, -1, 0));
        refused(BEYOND, x -> x.odds(0, 8, -1, 1));
    }

    static void promise25_nTooLarge() {
        odds(DrawsEdgeTest::thingAt3, 0, 8, 15, 1, 1L << 60);
        odds(DrawsEdgeTest::thingAt3, 0, 8, 14, 1, 1L << 56);
        refused(BEYOND, x -> x.odds(0, 8, 16, 0));
        refused(BEYOND, x -> x.odds(0, 8, 16, 1));
    }

    static void promise25_noCellsWhereNoneWouldDo() {
        odds(DrawsEdgeTest::thingAt3, 0, 99, 0, 1, 1);
    }

    static void promise25_whatTooSmall() {
        tells(DrawsEdgeTest::thingAt3, 1, x -> x.odds(0, 8, 1, 0));
        refused(BEYOND, x -> x.odds(0, 8, 1, -1));
    }

    static void promise25_whatTooLarge() {
        tells(DrawsEdgeTest::thingAt3, 16, x -> x.odds(0, 8, 1, 1));
        refused(BEYOND, x -> x.odds(0, 8, 1, 2));
    }

    static void promise25_thingTooSmall() {
        odds(Edge::lived, 0, 0, 1, 1, 1);
        refused(BEYOND, x -> x.odds(-1, 0, 1, 0));
    }

    static void promise25_thingTooLarge() {
        odds(Edge::lived, 4, 0, 1, 1, 1);
        refused(BEYOND, x -> x.odds(5, 0, 1, 0));
        refused(Edge::full, BEYOND, x -> x.odds(8, 0, 1, 0));
        refused(Edge::fresh, BEYOND, x -> x.odds(0, 0, 1, 1));
    }

    static void promise25_farBeyond() {
        refused(BEYOND, x -> x.odds(LEAST, 0, 0, 0));
        refused(BEYOND, x -> x.odds(GREATEST, 0, 0, 0));
        refused(BEYOND, x -> x.odds(0, LEAST, 0, 0));
        refused(BEYOND, x -> x.odds(0, GREATEST, 0, 0));
        refused(BEYOND, x -> x.odds(0, 0, LEAST, 0));
        refused(BEYOND, x -> x.odds(0, 0, GREATEST, 0));
        refused(BEYOND, x -> x.odds(0, 0, 0, LEAST));
        refused(BEYOND, x -> x.odds(0, 0, 0, GREATEST));
    }

    static void promise25_lowestTerms() {
        // THING at 0 with LOUD 16 feels 16 to 1: v or more from 17 less v of the CELLS.
        Street street = () -> Check.from("loud 16; thing");
        odds(street, 0, 9, 1, 1, 2);
        odds(street, 0, 13, 1, 1, 4);
        odds(street, 0, 5, 1, 3, 4);
        odds(street, 0, 15, 1, 1, 8);
        odds(street, 0, 3, 2, 49, 64);
        odds(street, 0, 9, 15, 1, 1 << 15);
        odds(street, 0, 1, 15, 1, 1);
    }

    static void promise25_greatestNumbers() {
        Street street = () -> Check.from("loud 16; thing");
        odds(street, 0, 2, 15, 437893890380859375L, 1152921504606846976L);
    }

    static void promise25_cellsAtBothEnds() {
        odds(() -> Check.from("loud 8; thing"), 0, 8, 1, 1, 16);
        odds(() -> Check.from("loud 8; thing at 15"), 0, 8, 1, 1, 16);
        odds(() -> Check.from("loud 8; thing at 15"), 0, 7, 1, 1, 8);
    }

    static void promise25_takenOrHeldAllTheSame() {
        IronCall x = thingAt3();
        x.change(0, 4, 1);
        x.change(0, 5, 1);
        due(x.odds(0, 8, 1, 1), 16);
    }

    static void promise25_noDrawIsMade() {
        tells(77, x -> {
            x.odds(0, 8, 15, 0);
            return x.count(6);
        });
    }

    // ---- promise 26: seed

    static void promise26_anyInt() {
        IronCall x = new IronCall();
        int[] seeds = {LEAST, -1, 0, 1, GREATEST, LEAST + 1, -1000001, LEAST};
        int was = 1;
        for (int v : seeds) {
            due(x.seed(v), was);
            due(x.count(6), v);
            was = v;
        }
        due(x.status(-1), 0);
    }

    static void promise26_nothingElseChanges() {
        tells(77, x -> x.seed(77));
    }
}
