/** Boundary cases of promises 1 to 7: a new object, the cart, the things. */
public final class ThingsEdgeTest extends Edge {
    public static void main(String[] args) {
        runAll(ThingsEdgeTest.class);
    }

    // ---- promise 1: a new object

    static void promise1_cartAsAtFirst() {
        cartIs(new IronCall(), 0, 1, 1, 8);
    }

    static void promise1_noThings() {
        tells(Edge::fresh, 0, x -> x.count(1));
        tells(Edge::fresh, -1, x -> x.now(5));
        tells(Edge::fresh, 0, x -> x.now(6));
        refused(Edge::fresh, BEYOND, x -> x.of(0, 0));
        refused(Edge::fresh, BEYOND, x -> x.change(0, 0, 0));
    }

    static void promise1_tapeIsEmpty() {
        tells(Edge::fresh, 0, x -> x.count(5));
        tells(Edge::fresh, 0, x -> x.wipe());
        tells(Edge::fresh, -1, x -> x.text());
    }

    static void promise1_noImageIsKept() {
        refused(Edge::fresh, NONE, x -> x.undo());
        tells(Edge::fresh, 0, x -> x.tear());
    }

    static void promise1_spotsHoldNothing() {
        tells(Edge::fresh, 0, x -> x.count(7));
        refused(Edge::fresh, MISSING, x -> x.as(0, 0));
        refused(Edge::fresh, MISSING, x -> x.as(9, 0));
    }

    static void promise1_sheetsAreMissing() {
        refused(Edge::fresh, MISSING, x -> x.judge(0));
        refused(Edge::fresh, MISSING, x -> x.judge(3));
    }

    static void promise1_zIs1CallIs0() {
        tells(Edge::fresh, 1, x -> x.count(6));
        tells(Edge::fresh, 0, x -> x.count(0));
    }

    static void promise1_noFindingsYet() {
        IronCall x = new IronCall();
        for (int which = -1; which <= 6; which++) {
            due(x.status(which), 0);
        }
    }

    static void promise1_objectsAreApart() {
        lived();
        full();
        same(new IronCall(), fresh());
    }

    // ---- promise 2: set

    private static void sets(int what, int v, int was) {
        IronCall x = lived();
        int[] cart = {9, 0, 2, 11};
        due(x.set(what, v), was);
        cart[what] = v;
        cartIs(x, cart);
    }

    static void promise2_cellTooSmall() {
        sets(0, 0, 9);
        refused(BEYOND, x -> x.set(0, -1));
    }

    static void promise2_cellTooLarge() {
        sets(0, 15, 9);
        refused(BEYOND, x -> x.set(0, 16));
    }

    static void promise2_wayTooSmall() {
        sets(1, 0, 0);
        refused(BEYOND, x -> x.set(1, -1));
    }

    static void promise2_wayTooLarge() {
        sets(1, 1, 0);
        refused(BEYOND, x -> x.set(1, 2));
    }

    static void promise2_paceTooSmall() {
        sets(2, 0, 2);
        refused(BEYOND, x -> x.set(2, -1));
    }

    static void promise2_paceTooLarge() {
        sets(2, 3, 2);
        refused(BEYOND, x -> x.set(2, 4));
    }

    static void promise2_loudTooSmall() {
        sets(3, 0, 11);
        refused(BEYOND, x -> x.set(3, -1));
    }

    static void promise2_loudTooLarge() {
        sets(3, 20, 11);
        refused(BEYOND, x -> x.set(3, 21));
    }

    static void promise2_whatTooSmall() {
        sets(0, 1, 9);
        refused(BEYOND, x -> x.set(-1, 1));
    }

    static void promise2_whatTooLarge() {
        sets(3, 1, 11);
        refused(BEYOND, x -> x.set(4, 1));
        refused(BEYOND, x -> x.set(4, 0));
    }

    static void promise2_farBeyond() {
        refused(BEYOND, x -> x.set(LEAST, 0));
        refused(BEYOND, x -> x.set(GREATEST, 0));
        refused(BEYOND, x -> x.set(0, LEAST));
        refused(BEYOND, x -> x.set(3, GREATEST));
    }

    static void promise2_wayAtTheEndsIsAsSet() {
        // It turns in a call alone.
        IronCall x = new IronCall();
        due(x.set(1, 0), 1);
        cartIs(x, 0, 0);
        due(x.set(0, 15), 0);
        due(x.set(1, 1), 0);
        cartIs(x, 15, 1);
    }

    // ---- promise 3: cart

    static void promise3_whatTooSmall() {
        tells(9, x -> x.cart(0));
        refused(BEYOND, x -> x.cart(-1));
    }

    static void promise3_whatTooLarge() {
        tells(11, x -> x.cart(3));
        refused(BEYOND, x -> x.cart(4));
    }

    static void promise3_farBeyond() {
        refused(BEYOND, x -> x.cart(LEAST));
        refused(BEYOND, x -> x.cart(GREATEST));
    }

    // ---- promise 4: thing

    private static void makes(int kind, int cell) {
        IronCall x = lived();
        due(x.thing(kind, cell), 5);
        due(x.count(1), 6);
        thingIs(x, 5, kind, cell, 10, 0, 0, 0, 0);
    }

    static void promise4_kindTooSmall() {
        makes(0, 4);
        refused(BEYOND, x -> x.thing(-1, 4));
    }

    static void promise4_kindTooLarge() {
        makes(6, 4);
        refused(BEYOND, x -> x.thing(7, 4));
    }

    static void promise4_cellTooSmall() {
        makes(3, 0);
        refused(BEYOND, x -> x.thing(3, -1));
    }

    static void promise4_cellTooLarge() {
        makes(3, 15);
        refused(BEYOND, x -> x.thing(3, 16));
    }

    static void promise4_farBeyond() {
        refused(BEYOND, x -> x.thing(LEAST, 0));
        refused(BEYOND, x -> x.thing(GREATEST, 0));
        refused(BEYOND, x -> x.thing(0, LEAST));
        refused(BEYOND, x -> x.thing(0, GREATEST));
    }

    static void promise4_firstIs0EighthIs7NinthIsFull() {
        IronCall x = new IronCall();
        for (int i = 0; i < 8; i++) {
            due(x.thing(2, i), i);
        }
        due(x.thing(2, 8), FULL);
        due(x.count(1), 8);
        refused(Edge::full, FULL, y -> y.thing(0, 0));
        refused(Edge::full, FULL, y -> y.thing(6, 15));
    }

    static void promise4_beyondAheadOfFull() {
        refused(Edge::full, BEYOND, x -> x.thing(-1, 0));
        refused(Edge::full, BEYOND, x -> x.thing(7, 0));
        refused(Edge::full, BEYOND, x -> x.thing(0, -1));
        refused(Edge::full, BEYOND, x -> x.thing(0, 16));
    }

    static void promise4_takenThingsTakeRoom() {
        IronCall x = full();
        x.change(3, 5, 1);
        due(x.thing(0, 0), FULL);
    }

    static void promise4_ofAFormerOneNothingStays() {
        IronCall x = full();
        for (int i = 0; i < 8; i++) {
            int[] most = {6, 15, 99, 999, 1, 1, 9999};
            for (int what = 0; what < 7; what++) {
                x.change(i, what, most[what]);
            }
        }
        due(x.undo(), 0);
        for (int i = 0; i < 8; i++) {
            due(x.thing(i % 7, i), i);
            thingIs(x, i, i % 7, i, 10, 0, 0, 0, 0);
        }
    }

    // ---- promise 5: of

    static void promise5_thingTooSmall() {
        tells(1, x -> x.of(0, 0));
        refused(BEYOND, x -> x.of(-1, 0));
    }

    static void promise5_thingTooLarge() {
        tells(6, x -> x.of(4, 0));
        refused(BEYOND, x -> x.of(5, 0));
    }

    static void promise5_eightThings() {
        tells(Edge::full, 1, x -> x.of(7, 1));
        refused(Edge::full, BEYOND, x -> x.of(8, 1));
    }

    static void promise5_noThings() {
        for (int what = 0; what < 12; what++) {
            int asked = what;
            refused(Edge::fresh, BEYOND, x -> x.of(0, asked));
        }
    }

    static void promise5_whatTooSmall() {
        tells(1, x -> x.of(0, 0));
        refused(BEYOND, x -> x.of(0, -1));
    }

    static void promise5_whatTooLarge() {
        tells(3, x -> x.of(0, 11));
        refused(BEYOND, x -> x.of(0, 12));
    }

    static void promise5_farBeyond() {
        refused(BEYOND, x -> x.of(LEAST, 0));
        refused(BEYOND, x -> x.of(GREATEST, 0));
        refused(BEYOND, x -> x.of(0, LEAST));
        refused(BEYOND, x -> x.of(0, GREATEST));
    }

    static void promise5_eachWhat() {
        // The needle at 12, 3 off from the cart at 9; the bed at 3 is taken.
        int[] needle = {5, 12, 5, 44, 1, 0, 0, 8, 3, 0, 0, 3};
        int[] bed = {4, 3, 10, 0, 0, 1, 0, 6, 1, 0, 2, 6};
        for (int what = 0; what < 12; what++) {
            int asked = what;
            tells(needle[what], x -> x.of(2, asked));
            tells(bed[what], x -> x.of(3, asked));
        }
    }

    static void promise5_feelsAsTheCartIsNow() {
        IronCall x = Check.from("loud 8; thing at 8");
        due(x.of(0, 7), 0);
        x.set(0, 1);
        due(x.of(0, 7), 1);
        x.set(3, 7);
        due(x.of(0, 7), 0);
    }

    // ---- promise 6: change

    private static void changes(int what, int v, int was) {
        IronCall x = lived();
        int[] needle = {5, 12, 5, 44, 1, 0, 0};
        due(x.change(2, what, v), was);
        needle[what] = v;
        thingIs(x, 2, needle);
        thingIs(x, 1, 2, 3, 10, 6, 0, 0, 0);
        thingIs(x, 3, 4, 3, 10, 0, 0, 1, 0);
    }

    static void promise6_kindTooSmall() {
        changes(0, 0, 5);
        refused(BEYOND, x -> x.change(2, 0, -1));
    }

    static void promise6_kindTooLarge() {
        changes(0, 6, 5);
        refused(BEYOND, x -> x.change(2, 0, 7));
    }

    static void promise6_cellTooSmall() {
        changes(1, 0, 12);
        refused(BEYOND, x -> x.change(2, 1, -1));
    }

    static void promise6_cellTooLarge() {
        changes(1, 15, 12);
        refused(BEYOND, x -> x.change(2, 1, 16));
    }

    static void promise6_heavyTooSmall() {
        changes(2, 1, 5);
        refused(BEYOND, x -> x.change(2, 2, 0));
    }

    static void promise6_heavyTooLarge() {
        changes(2, 99, 5);
        refused(BEYOND, x -> x.change(2, 2, 100));
    }

    static void promise6_pulledTooSmall() {
        changes(3, 0, 44);
        refused(BEYOND, x -> x.change(2, 3, -1));
    }

    static void promise6_pulledTooLarge() {
        changes(3, 999, 44);
        refused(BEYOND, x -> x.change(2, 3, 1000));
    }

    static void promise6_heldTooSmall() {
        changes(4, 0, 1);
        refused(BEYOND, x -> x.change(2, 4, -1));
    }

    static void promise6_heldTooLarge() {
        changes(4, 1, 1);
        refused(BEYOND, x -> x.change(2, 4, 2));
    }

    static void promise6_takenTooSmall() {
        changes(5, 0, 0);
        refused(BEYOND, x -> x.change(2, 5, -1));
    }

    static void promise6_takenTooLarge() {
        changes(5, 1, 0);
        refused(BEYOND, x -> x.change(2, 5, 2));
    }

    static void promise6_movedTooSmall() {
        changes(6, 0, 0);
        refused(BEYOND, x -> x.change(2, 6, -1));
    }

    static void promise6_movedTooLarge() {
        changes(6, 9999, 0);
        refused(BEYOND, x -> x.change(2, 6, 10000));
    }

    static void promise6_whatTooSmall() {
        changes(0, 1, 5);
        refused(BEYOND, x -> x.change(2, -1, 1));
    }

    static void promise6_whatTooLarge() {
        changes(6, 1, 0);
        for (int what = 7; what <= 12; what++) {
            int asked = what;
            refused(BEYOND, x -> x.change(2, asked, 1));
        }
    }

    static void promise6_thingTooSmall() {
        due(lived().change(0, 0, 1), 1);
        refused(BEYOND, x -> x.change(-1, 0, 1));
    }

    static void promise6_thingTooLarge() {
        due(lived().change(4, 0, 1), 6);
        refused(BEYOND, x -> x.change(5, 0, 1));
    }

    static void promise6_eightThings() {
        due(full().change(7, 1, 3), 1);
        refused(Edge::full, BEYOND, x -> x.change(8, 1, 3));
    }

    static void promise6_noThings() {
        refused(Edge::fresh, BEYOND, x -> x.change(0, 0, 1));
    }

    static void promise6_farBeyond() {
        refused(BEYOND, x -> x.change(LEAST, 0, 0));
        refused(BEYOND, x -> x.change(GREATEST, 0, 0));
        refused(BEYOND, x -> x.change(0, LEAST, 0));
        refused(BEYOND, x -> x.change(0, GREATEST, 0));
        refused(BEYOND, x -> x.change(0, 3, LEAST));
        refused(BEYOND, x -> x.change(0, 3, GREATEST));
    }

    static void promise6_takenIsTakenBack() {
        IronCall x = lived();
        due(x.change(3, 5, 0), 1);
        thingIs(x, 3, 4, 3, 10, 0, 0, 0, 0);
        due(x.who(3), 2 | 8);
    }

    // ---- promise 7: who

    static void promise7_cellTooSmall() {
        tells(() -> Check.from("thing; iron at 1"), 1, x -> x.who(0));
        refused(BEYOND, x -> x.who(-1));
    }

    static void promise7_cellTooLarge() {
        tells(() -> Check.from("thing at 14; iron at 15"), 2, x -> x.who(15));
        refused(BEYOND, x -> x.who(16));
    }

    static void promise7_emptyCell() {
        tells(0, x -> x.who(0));
        tells(Edge::fresh, 0, x -> x.who(0));
    }

    static void promise7_takenAreNotTold() {
        tells(2, x -> x.who(3));
    }

    static void promise7_allEightAtOneCell() {
        IronCall x = full();
        for (int i = 0; i < 8; i++) {
            x.change(i, 1, 7);
        }
        due(x.who(7), 255);
        due(x.who(6), 0);
    }

    static void promise7_farBeyond() {
        refused(BEYOND, x -> x.who(LEAST));
        refused(BEYOND, x -> x.who(GREATEST));
    }
}
