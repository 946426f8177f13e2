/** Boundary cases of promises 16 to 21: how to call. */
public final class PlanEdgeTest extends Edge {
    // GOLD one CELL off, feeling 3 and resting 2 with LOUD 10 to 12: it comes to the cart in the 60th call.
    private static final String IN_60 = "cart 4 pace 0; gold at 5 heavy 99 pulled 37";

    public static void main(String[] args) {
        runAll(PlanEdgeTest.class);
    }

    // ---- promise 16: loudFor

    static void promise16_nTooSmall() {
        tells(0, x -> x.loudFor(3, 0));
        refused(NONE, x -> x.loudFor(0, 0));
        refused(BEYOND, x -> x.loudFor(3, -1));
    }

    static void promise16_nTooLarge() {
        tells(() -> Check.from(IN_60), 10, x -> x.loudFor(0, 60));
        tells(() -> Check.from(IN_60), 13, x -> x.loudFor(0, 59));
        refused(BEYOND, x -> x.loudFor(3, 61));
    }

    static void promise16_loud0Will() {
        tells(() -> Check.from("cart 4 pace 0; thing at 4"), 0, x -> x.loudFor(0, 1));
    }

    static void promise16_loud20Will() {
        tells(() -> Check.from("cart 4 pace 0; thing at 5 heavy 19"), 20, x -> x.loudFor(0, 1));
    }

    static void promise16_loud21IsNone() {
        refused(() -> Check.from("cart 4 pace 0; thing at 5 heavy 20"), NONE, x -> x.loudFor(0, 1));
    }

    static void promise16_neverIsNone() {
        refused(NONE, x -> x.loudFor(2, 60));
    }

    static void promise16_beyondAheadOfNone() {
        refused(BEYOND, x -> x.loudFor(2, 61));
        refused(BEYOND, x -> x.loudFor(2, -1));
    }

    static void promise16_asItIsNowDoesNotMatter() {
        // LOUD is 20 now, but 7 will do.
        tells(() -> Check.from("cart 4 pace 0; loud 20; thing at 5 heavy 6"), 7, x -> x.loudFor(0, 1));
        tells(() -> Check.from("cart 4 pace 0; loud 0; thing at 5 heavy 6"), 7, x -> x.loudFor(0, 1));
    }

    static void promise16_thingTooSmall() {
        tells(() -> Check.from("cart 4 pace 0; thing at 4"), 0, x -> x.loudFor(0, 1));
        refused(BEYOND, x -> x.loudFor(-1, 1));
    }

    static void promise16_thingTooLarge() {
        IronCall x = full();
        x.change(7, 5, 1);
        due(x.loudFor(7, 0), 0);
        refused(Edge::full, BEYOND, y -> y.loudFor(8, 0));
        refused(BEYOND, y -> y.loudFor(5, 0));
        refused(Edge::fresh, BEYOND, y -> y.loudFor(0, 0));
    }

    static void promise16_farBeyond() {
        refused(BEYOND, x -> x.loudFor(LEAST, 0));
        refused(BEYOND, x -> x.loudFor(GREATEST, 0));
        refused(BEYOND, x -> x.loudFor(3, LEAST));
        refused(BEYOND, x -> x.loudFor(3, GREATEST));
    }

    static void promise16_askedAgain() {
        tells(() -> Check.from(IN_60), 20, x -> x.loudFor(0, 60) + x.loudFor(0, 60));
    }

    // ---- promise 17: startFor

    static void promise17_nTooSmall() {
        // All alike: what is TAKEN now.
        tells(0, x -> x.startFor(0));
        refused(BEYOND, x -> x.startFor(-1));
    }

    static void promise17_nTooLarge() {
        // From 14 the cart has the GOLD come in the 60th call; at 15 it would be TAKEN at once.
        String street = "cart 0 pace 0; loud 10; gold at 15 heavy 99 pulled 37";
        tells(() -> Check.from(street), 14, x -> x.startFor(60));
        tells(() -> Check.from(street), 15, x -> x.startFor(59));
        refused(BEYOND, x -> x.startFor(61));
    }

    static void promise17_cell0() {
        tells(() -> Check.from("cart 9 pace 0; loud 0; thing heavy 9; thing at 15 heavy 8"), 0, x -> x.startFor(1));
    }

    static void promise17_cell15() {
        tells(() -> Check.from("cart 9 pace 0; loud 0; thing heavy 8; thing at 15 heavy 9"), 15, x -> x.startFor(1));
    }

    /** On its WAY to lesser CELLS it comes to 15 in one CALL from nowhere. */
    static void promise17_noCellBeyond15() {
        tells(() -> Check.from("cart 9 back; loud 0; thing at 15 heavy 99"), 0, x -> x.startFor(1));
    }

    static void promise17_ofSeveralTheLeast() {
        tells(() -> Check.from("cart 9 pace 0; loud 0; thing at 7 heavy 9; thing at 3 heavy 9"), 3, x -> x.startFor(1));
        tells(() -> Check.from("cart 9; bed; bed at 4"), 0, x -> x.startFor(60));
    }

    static void promise17_takenNowToo() {
        // What is TAKEN now adds the same wherever the cart begins.
        IronCall x = Check.from("cart 9 pace 0; loud 0; thing at 7 heavy 9; bed at 3 heavy 50");
        x.change(1, 5, 1);
        due(x.startFor(0), 0);
        due(x.startFor(1), 7);
    }

    static void promise17_noThings() {
        tells(Edge::fresh, 0, x -> x.startFor(0));
        tells(Edge::fresh, 0, x -> x.startFor(60));
    }

    static void promise17_farBeyond() {
        refused(BEYOND, x -> x.startFor(LEAST));
        refused(BEYOND, x -> x.startFor(GREATEST));
    }

    static void promise17_askedAgain() {
        tells(() -> Check.from("cart 9 pace 0; loud 0; thing heavy 8; thing at 15 heavy 9"), 30,
                x -> x.startFor(1) + x.startFor(1));
    }

    // ---- promise 18: layFor

    static void promise18_nTooSmall() {
        tells(0, x -> x.layFor(2, 0));
        refused(BEYOND, x -> x.layFor(2, -1));
    }

    static void promise18_nTooLarge() {
        // It moves in the 60th call, if it is one CELL off, and from nowhere else.
        String street = IN_60 + "; loud 10";
        tells(() -> Check.from(street), 3, x -> x.layFor(0, 60));
        tells(() -> Check.from(street), 0, x -> x.layFor(0, 59));
        refused(BEYOND, x -> x.layFor(2, 61));
    }

    static void promise18_cell0() {
        tells(() -> Check.from("cart 8 pace 0; loud 20; thing"), 0, x -> x.layFor(0, 60));
    }

    static void promise18_cell15() {
        tells(() -> Check.from("cart 7 pace 0; loud 20; thing"), 15, x -> x.layFor(0, 60));
    }

    static void promise18_ofSeveralTheLeast() {
        // 3 off from 8, at 5 and at 11.
        tells(() -> Check.from("cart 8 pace 0; loud 8; iron"), 5, x -> x.layFor(0, 3));
    }

    static void promise18_itNeverMoves() {
        tells(() -> Check.from("cart 8 pace 0; loud 20; iron at 9 held"), 0, x -> x.layFor(0, 60));
    }

    static void promise18_movedIs9999Already() {
        IronCall x = Check.from("cart 8 pace 0; loud 20; iron at 9");
        x.change(0, 6, 9999);
        due(x.layFor(0, 60), 0);
        // One move is as much as three then: 6 off from the cart it feels 4 and moves in the third call.
        x.change(0, 6, 9998);
        x.set(3, 8);
        due(x.layFor(0, 3), 2);
        x.change(0, 6, 9996);
        due(x.layFor(0, 3), 5);
    }

    static void promise18_thingTooSmall() {
        tells(0, x -> x.layFor(0, 0));
        refused(BEYOND, x -> x.layFor(-1, 0));
    }

    static void promise18_thingTooLarge() {
        tells(Edge::full, 0, x -> x.layFor(7, 0));
        refused(Edge::full, BEYOND, x -> x.layFor(8, 0));
        refused(BEYOND, x -> x.layFor(5, 0));
        refused(Edge::fresh, BEYOND, x -> x.layFor(0, 0));
    }

    static void promise18_farBeyond() {
        refused(BEYOND, x -> x.layFor(LEAST, 0));
        refused(BEYOND, x -> x.layFor(GREATEST, 0));
        refused(BEYOND, x -> x.layFor(2, LEAST));
        refused(BEYOND, x -> x.layFor(2, GREATEST));
    }

    static void promise18_askedAgain() {
        tells(() -> Check.from("cart 7 pace 0; loud 20; thing"), 30, x -> x.layFor(0, 60) + x.layFor(0, 60));
    }

    // ---- promise 19: kindFor

    static void promise19_nTooSmall() {
        tells(0, x -> x.kindFor(2, 0));
        refused(BEYOND, x -> x.kindFor(2, -1));
    }

    static void promise19_nTooLarge() {
        // A THING feels 2 and rests 1, so that it moves in the 60th call; IRON does so long before.
        String street = "cart 4 pace 0; loud 3; bed at 5 heavy 99 pulled 38";
        tells(() -> Check.from(street), 0, x -> x.kindFor(0, 60));
        tells(() -> Check.from(street), 1, x -> x.kindFor(0, 59));
        refused(BEYOND, x -> x.kindFor(2, 61));
    }

    static void promise19_kind0() {
        tells(() -> Check.from("cart 8 pace 0; loud 20; bed at 9 heavy 1"), 0, x -> x.kindFor(0, 1));
    }

    static void promise19_kind6() {
        // In silence a CROWN feels its company.
        tells(() -> Check.from("cart 8 pace 0; loud 0; thing heavy 1; bed"), 6, x -> x.kindFor(0, 1));
    }

    static void promise19_ofSeveralTheLeast() {
        // All of them feel enough to come to the cart, one CELL off.
        tells(() -> Check.from("cart 8 pace 0; loud 20; thing at 9 heavy 1"), 0, x -> x.kindFor(0, 60));
    }

    static void promise19_itNeverMoves() {
        tells(() -> Check.from("cart 8 pace 0; loud 20; crown at 9 held"), 0, x -> x.kindFor(0, 60));
    }

    static void promise19_thingTooSmall() {
        tells(0, x -> x.kindFor(0, 0));
        refused(BEYOND, x -> x.kindFor(-1, 0));
    }

    static void promise19_thingTooLarge() {
        tells(Edge::full, 0, x -> x.kindFor(7, 0));
        refused(Edge::full, BEYOND, x -> x.kindFor(8, 0));
        refused(BEYOND, x -> x.kindFor(5, 0));
        refused(Edge::fresh, BEYOND, x -> x.kindFor(0, 0));
    }

    static void promise19_farBeyond() {
        refused(BEYOND, x -> x.kindFor(LEAST, 0));
        refused(BEYOND, x -> x.kindFor(GREATEST, 0));
        refused(BEYOND, x -> x.kindFor(2, LEAST));
        refused(BEYOND, x -> x.kindFor(2, GREATEST));
    }

    static void promise19_askedAgain() {
        tells(() -> Check.from("cart 8 pace 0; loud 0; thing heavy 1; bed"), 12, x -> x.kindFor(0, 1) + x.kindFor(0, 1));
    }

    // ---- promise 20: heavyFor

    static void promise20_nTooSmall() {
        tells(1, x -> x.heavyFor(0, 0));
        refused(NONE, x -> x.heavyFor(3, 0));
        refused(BEYOND, x -> x.heavyFor(0, -1));
    }

    static void promise20_nTooLarge() {
        // With LOUD 10 it feels 3 and rests 2: PULLED is 37 + 62 at its most in the 60th call.
        String street = IN_60 + "; loud 10";
        refused(() -> Check.from(street), NONE, x -> x.heavyFor(0, 60));
        tells(() -> Check.from(street), 99, x -> x.heavyFor(0, 59));
        refused(BEYOND, x -> x.heavyFor(0, 61));
    }

    static void promise20_heavy1() {
        tells(() -> Check.from("cart 4 pace 0; bed at 4"), 1, x -> x.heavyFor(0, 60));
    }

    static void promise20_heavy99() {
        tells(() -> Check.from("cart 4 pace 0; thing at 5 pulled 91"), 99, x -> x.heavyFor(0, 1));
    }

    static void promise20_heavy100IsNone() {
        refused(() -> Check.from("cart 4 pace 0; thing at 5 pulled 92"), NONE, x -> x.heavyFor(0, 1));
    }

    static void promise20_beyondAheadOfNone() {
        refused(NONE, x -> x.heavyFor(3, 60));
        refused(BEYOND, x -> x.heavyFor(3, 61));
        refused(BEYOND, x -> x.heavyFor(3, -1));
    }

    static void promise20_ironFrom21() {
        tells(() -> Check.from("cart 4 pace 0; iron at 4"), 21, x -> x.heavyFor(0, 1));
    }

    static void promise20_alwaysTakenIsNone() {
        refused(() -> Check.from("cart 4 pace 0; thing at 4"), NONE, x -> x.heavyFor(0, 1));
    }

    static void promise20_thingTooSmall() {
        tells(1, x -> x.heavyFor(0, 0));
        refused(BEYOND, x -> x.heavyFor(-1, 0));
    }

    static void promise20_thingTooLarge() {
        tells(Edge::full, 1, x -> x.heavyFor(7, 0));
        refused(Edge::full, BEYOND, x -> x.heavyFor(8, 0));
        refused(BEYOND, x -> x.heavyFor(5, 0));
        refused(Edge::fresh, BEYOND, x -> x.heavyFor(0, 0));
    }

    static void promise20_farBeyond() {
        refused(BEYOND, x -> x.heavyFor(LEAST, 0));
        refused(BEYOND, x -> x.heavyFor(GREATEST, 0));
        refused(BEYOND, x -> x.heavyFor(0, LEAST));
        refused(BEYOND, x -> x.heavyFor(0, GREATEST));
    }

    static void promise20_askedAgain() {
        tells(() -> Check.from("cart 4 pace 0; thing at 5 pulled 91"), 198, x -> x.heavyFor(0, 1) + x.heavyFor(0, 1));
    }

    // ---- promise 21: holdFast

    static void promise21_nTooSmall() {
        tells(() -> Check.from("cart 4 pace 0; thing at 4"), 0, x -> x.holdFast(0));
        tells(() -> Check.from("cart 4 pace 0; thing at 4"), 1, x -> x.holdFast(1));
        refused(BEYOND, x -> x.holdFast(-1));
    }

    static void promise21_nTooLarge() {
        // The cart is back at 5 in the 20th call, at 4 in the next.
        tells(() -> Check.from("cart 5; loud 0; thing at 5; thing at 4"), 1, x -> x.holdFast(20));
        tells(() -> Check.from("cart 5; loud 0; thing at 5; thing at 4"), 0, x -> x.holdFast(19));
        refused(() -> Check.from("cart 5; loud 0; thing at 5; thing at 4"), BEYOND, x -> x.holdFast(21));
    }

    static void promise21_farBeyond() {
        refused(BEYOND, x -> x.holdFast(LEAST));
        refused(BEYOND, x -> x.holdFast(GREATEST));
    }

    static void promise21_noThings() {
        tells(Edge::fresh, 0, x -> x.holdFast(0));
        tells(Edge::fresh, 0, x -> x.holdFast(20));
    }

    static void promise21_allEight() {
        IronCall x = new IronCall();
        for (int i = 0; i < 8; i++) {
            x.thing(0, 1);
        }
        due(x.holdFast(1), 255);
        due(x.status(-1), 0);
        due(x.now(7), 0);
    }

    static void promise21_allTakenNow() {
        IronCall x = full();
        for (int i = 0; i < 8; i++) {
            x.change(i, 5, 1);
        }
        due(x.holdFast(20), 0);
    }

    static void promise21_heldAlreadyAreNotTold() {
        tells(() -> Check.from("cart 4 pace 0; thing at 4 held; thing at 4"), 2, x -> x.holdFast(1));
        tells(() -> Check.from("cart 4 pace 0; thing at 4 held"), 0, x -> x.holdFast(20));
    }

    static void promise21_takenNowAreNotMore() {
        IronCall x = Check.from("cart 4 pace 0; thing at 4; thing at 4");
        x.change(0, 5, 1);
        due(x.holdFast(20), 2);
    }

    static void promise21_fewestAheadOfLeast() {
        // Two beds of numbers 0 and 1 HELD would do, and so does the crown, number 2, alone.
        tells(() -> Check.from("cart 4 pace 0; bed at 5 heavy 9; bed at 5 heavy 9; crown at 4 heavy 99 pulled 2"), 4,
                x -> x.holdFast(1));
    }

    static void promise21_ofSeveralTheLeast() {
        // Either bed HELD keeps the crown below 5.
        tells(() -> Check.from("cart 4 pace 0; bed at 5 heavy 9; bed at 5 heavy 9; crown at 4 heavy 99 pulled 1"), 1,
                x -> x.holdFast(1));
    }

    static void promise21_thingMadeJustNow() {
        IronCall x = Check.from("cart 4 pace 0; bed at 3");
        due(x.holdFast(1), 0);
        x.thing(0, 4);
        due(x.holdFast(1), 2);
    }

    static void promise21_neverNone() {
        for (int n = 0; n <= 20; n++) {
            int asked = n;
            IronCall x = full();
            due(x.holdFast(asked) >= 0 ? 1 : 0, 1);
            due(x.status(-1), 0);
        }
    }

    static void promise21_askedAgain() {
        tells(() -> Check.from("cart 5; loud 0; thing at 5; thing at 4"), 2, x -> x.holdFast(20) + x.holdFast(20));
    }
}
