/** Boundary cases of the document's Terms: findings, text 1 (cells, cart, things), text 2 (a call, draws). */
public final class TermsEdgeTest extends Edge {
    public static void main(String[] args) {
        runAll(TermsEdgeTest.class);
    }

    // ---- findings

    static void findings_areBelowMinus1000000() {
        due(lived().cart(4), -1000001);
        due(full().thing(0, 0), -1000002);
        due(lived().as(9, 2), -1000003);
        due(fresh().undo(), -1000004);
        due(lived().load(3), -1000006);
        due(lived().sheet(0, 8, -1), -1000007);
    }

    static void findings_inLongsToo() {
        due(lived().odds(0, 0, 16, 0), -1000001L);
        refused(BEYOND, x -> x.odds(0, 0, 16, 1));
    }

    static void findings_minus1IsNone() {
        tells(Edge::fresh, -1, x -> x.now(5));
        IronCall x = new IronCall();
        due(x.text(), -1);
        due(x.status(-1), 0);
    }

    static void findings_changeNothing() {
        refused(Edge::turning, BEYOND, x -> x.who(16));
        refused(Edge::turning, KIND, x -> x.as(9, 2));
        refused(Edge::turning, NONE, x -> x.taken(2));
        refused(Edge::turning, MISSING, x -> x.load(3));
        refused(Edge::turning, SIZE, x -> x.sheet(0, 8, -1));
    }

    /** What is asked of thing 1. */
    private static Act[] ofThing1() {
        return new Act[] {x -> x.of(1, 0), x -> x.change(1, 1, 5), x -> x.ahead(1, 1, 0), x -> x.ahead(1, 6, 3),
            x -> x.taken(1), x -> x.when(1, 5), x -> x.meet(1, 0), x -> x.meet(0, 1), x -> x.strained(1, 0),
            x -> x.loudFor(1, 60), x -> x.layFor(1, 1), x -> x.kindFor(1, 1), x -> x.heavyFor(1, 0), x -> x.fits(0, 1),
            x -> x.kinds(0, 1), x -> x.odds(1, 1, 1, 0), x -> x.hold(0, 1)};
    }

    static void findings_noneOfAThingMadeJustNow() {
        for (Act act : ofThing1()) {
            IronCall x = Check.from("bed at 5");
            x.sheet(0, 8, 1);
            x.where(3);
            x.thing(0, 5);
            due(act.on(x) >= 0 ? 1 : 0, 1);
            due(x.status(-1), 0);
        }
    }

    static void findings_beyondForAThingTakenBack() {
        Street takenBack = () -> {
            IronCall x = Check.from("bed at 5");
            x.sheet(0, 8, 1);
            x.image();
            x.thing(0, 5);
            x.where(3);
            x.undo();
            return x;
        };
        for (Act act : ofThing1()) {
            refused(takenBack, BEYOND, act);
        }
    }

    static void findings_zIsNone() {
        IronCall x = new IronCall();
        int[] numbers = {-1000000, -1000001, -1000002, -1000003, -1000004, -1000005, -1000006, -1000007, -1000008};
        int was = 1;
        for (int v : numbers) {
            due(x.seed(v), was);
            due(x.count(6), v);
            was = v;
        }
        for (int which = -1; which < 7; which++) {
            due(x.status(which), 0);
        }
    }

    // ---- text 1: what a call makes felt

    private static void feels(String street, int... felt) {
        IronCall x = Check.from(street);
        for (int thing = 0; thing < felt.length; thing++) {
            due(x.of(thing, 7), felt[thing]);
        }
    }

    static void terms1_farAtTheEndsOfTheCells() {
        IronCall x = Check.from("thing at 15; thing at 0");
        due(x.of(0, 11), 15);
        due(x.of(1, 11), 0);
        x.set(0, 15);
        due(x.of(0, 11), 0);
        due(x.of(1, 11), 15);
    }

    static void terms1_thingFeels0AtLeast() {
        feels("loud 8; thing at 7; thing at 8; thing at 9; thing at 15", 1, 0, 0, 0);
    }

    static void terms1_thingFeelsAllLoudAtTheCart() {
        feels("loud 20; thing; thing at 1", 20, 19);
        feels("loud 0; thing", 0);
    }

    static void terms1_ironFeelsTwice0AtLeast() {
        feels("loud 8; iron at 7; iron at 8; iron at 9", 2, 0, 0);
    }

    static void terms1_swordFeels3MoreUpToFar3() {
        feels("loud 8; sword at 3; sword at 4; sword", 2 * 5 + 3, 2 * 4, 2 * 8 + 3);
        feels("cart 15; loud 8; sword at 12; sword at 11", 2 * 5 + 3, 2 * 4);
    }

    static void terms1_swordFeels3OfSilence() {
        feels("loud 0; sword at 3; sword at 4", 3, 0);
    }

    static void terms1_bedFeels0AtLeast() {
        // A SWORD would feel 5, then 3.
        feels("loud 1; bed; bed at 1", 1, 0);
        // A SWORD would feel 6, 4, 2, 0.
        feels("loud 8; bed at 5; bed at 6; bed at 7; bed at 8", 2, 0, 0, 0);
    }

    static void terms1_goldFeelsAThirdCut() {
        feels("loud 8; gold at 2; gold at 3; gold at 5; gold at 6; gold at 8", 2, 1, 1, 0, 0);
    }

    static void terms1_crownFeelsGoldAlone() {
        feels("loud 8; crown at 2; crown at 3; crown at 15", 2, 1, 0);
    }

    static void terms1_crownFeelsUpToSevenOthers() {
        feels("loud 8; crown at 2; bed at 2", 2 + 1);
        feels("loud 8; crown at 2; bed at 2; bed at 2; bed at 2; bed at 2; bed at 2; bed at 2; bed at 2", 2 + 7);
    }

    static void terms1_crownFeelsNoneThatIsTaken() {
        IronCall x = Check.from("loud 8; crown at 2; bed at 2; bed at 2 held");
        due(x.of(0, 7), 2 + 2);
        x.change(1, 5, 1);
        due(x.of(0, 7), 2 + 1);
        x.change(2, 5, 1);
        due(x.of(0, 7), 2);
        x.change(0, 5, 1);
        due(x.of(0, 7), 2);
    }

    static void terms1_crownFeelsNoneAtTheNextCell() {
        feels("loud 8; crown at 2; bed at 1; bed at 3", 2);
    }

    static void terms1_needleFeelsAllLoudIfFarIsEven() {
        feels("loud 8; needle; needle at 2; needle at 14", 8, 8, 8);
        feels("loud 8; needle at 1; needle at 7; needle at 9; needle at 15", 7, 1, 0, 0);
    }

    // ---- text 1: steps, liked, rests

    static void terms1_swordSteps2OthersOne() {
        IronCall x = Check.from("thing; iron; gold; sword; bed; needle; crown");
        int[] steps = {1, 1, 1, 2, 1, 1, 1};
        for (int thing = 0; thing < 7; thing++) {
            due(x.of(thing, 8), steps[thing]);
        }
    }

    static void terms1_needleSteps3UpToHeavy5() {
        IronCall x = Check.from("needle heavy 5; needle heavy 6; needle heavy 1; needle heavy 99");
        due(x.of(0, 8), 3);
        due(x.of(1, 8), 1);
        due(x.of(2, 8), 3);
        due(x.of(3, 8), 1);
    }

    private static void liked(int kind, int heavy, int pulled, int moved, int want) {
        IronCall x = new IronCall();
        x.thing(kind, 3);
        x.change(0, 2, heavy);
        x.change(0, 3, pulled);
        x.change(0, 6, moved);
        due(x.of(0, 9), want);
    }

    static void terms1_ironLikedUpToHeavy20() {
        liked(1, 20, 0, 0, 1);
        liked(1, 21, 999, 9999, 0);
    }

    static void terms1_swordLikedUpToHeavy20() {
        liked(3, 20, 0, 4, 1);
        liked(3, 21, 999, 4, 0);
    }

    static void terms1_swordLikedFromMoved5() {
        liked(3, 99, 0, 5, 1);
        liked(3, 99, 0, 4, 0);
        liked(3, 99, 0, 6, 1);
        liked(3, 99, 0, 9999, 1);
    }

    static void terms1_crownLikedFromPulled5() {
        liked(6, 99, 5, 0, 1);
        liked(6, 99, 4, 0, 0);
    }

    static void terms1_thingAndGoldAlwaysLiked() {
        liked(0, 99, 0, 0, 1);
        liked(2, 99, 0, 0, 1);
    }

    static void terms1_bedAndNeedleNeverLiked() {
        liked(4, 1, 999, 9999, 0);
        liked(5, 1, 999, 9999, 0);
    }

    static void terms1_restsByKind() {
        IronCall x = Check.from("thing; iron; gold; sword; bed; needle; crown");
        int[] rests = {1, 0, 2, 0, 2, 0, 4};
        for (int thing = 0; thing < 7; thing++) {
            due(x.of(thing, 10), rests[thing]);
        }
    }

    static void terms1_kindsUnderKinds() {
        int[] above = {0, 0, 0, 1, 3, 0, 2};
        for (int kind = 0; kind < 7; kind++) {
            IronCall x = new IronCall();
            x.thing(kind, 0);
            x.hold(0, 0);
            due(x.as(0, above[kind]), 0);
            due(x.as(0, kind), 0);
        }
    }

    // ---- text 2: the cart at the ends of the cells

    /** CELL and WAY behind a call, from a CELL, on a WAY, with a PACE. */
    private static void goes(int cell, int way, int pace, int cellThen, int wayThen) {
        IronCall x = new IronCall();
        x.set(0, cell);
        x.set(1, way);
        x.set(2, pace);
        due(x.where(1), cellThen);
        due(x.go(1), 0);
        cartIs(x, cellThen, wayThen, pace, 8);
    }

    static void terms2_wayAheadOfTheFirstAtCell0() {
        goes(0, 0, 1, 1, 1);
        goes(1, 0, 1, 0, 1);
    }

    static void terms2_wayAheadOfTheFirstAtCell15() {
        goes(15, 1, 1, 14, 0);
        goes(14, 1, 1, 15, 0);
    }

    static void terms2_wayAtCell0WithPace0() {
        goes(0, 0, 0, 0, 1);
        goes(1, 0, 0, 1, 0);
    }

    static void terms2_wayAtCell15WithPace0() {
        goes(15, 1, 0, 15, 0);
        goes(14, 1, 0, 14, 1);
    }

    static void terms2_wayBehindEachAtCell0() {
        goes(1, 0, 1, 0, 1);
        goes(2, 0, 1, 1, 0);
        goes(2, 0, 2, 0, 1);
    }

    static void terms2_wayBehindEachAtCell15() {
        goes(14, 1, 1, 15, 0);
        goes(13, 1, 1, 14, 1);
        goes(13, 1, 2, 15, 0);
    }

    static void terms2_turnsBetweenTwoCellsOfItsPace() {
        goes(1, 0, 3, 2, 1);
        goes(2, 0, 3, 1, 1);
        goes(3, 0, 3, 0, 1);
        goes(14, 1, 3, 13, 0);
        goes(13, 1, 3, 14, 0);
        goes(12, 1, 3, 15, 0);
    }

    static void terms2_staysOnItsWayAtTheEnds() {
        goes(0, 1, 3, 3, 1);
        goes(15, 0, 3, 12, 0);
    }

    // ---- text 2: pulled and moved

    static void terms2_pulledUpTo999() {
        // Each feels 2 and rests by nothing.
        IronCall x = Check.from("cart 4 pace 0; loud 5; needle at 7 pulled 996 held; needle at 7 pulled 997 held;"
                + " needle at 7 pulled 998 held; needle at 7 pulled 999 held");
        x.go(1);
        due(x.of(0, 3), 998);
        due(x.of(1, 3), 999);
        due(x.of(2, 3), 999);
        due(x.of(3, 3), 999);
    }

    static void terms2_movesIfPulledIsJustHeavy() {
        IronCall x = Check.from("cart 4 pace 0; loud 5; needle at 7 pulled 8; needle at 7 pulled 7");
        x.go(1);
        thingIs(x, 0, 5, 6, 10, 0, 0, 0, 1);
        thingIs(x, 1, 5, 7, 10, 9, 0, 0, 0);
    }

    static void terms2_movesOnceACall() {
        IronCall x = Check.from("cart 4 pace 0; loud 5; needle at 7 pulled 18");
        x.go(1);
        thingIs(x, 0, 5, 6, 10, 10, 0, 0, 1);
    }

    static void terms2_heldMovesNot() {
        IronCall x = Check.from("cart 4 pace 0; loud 5; needle at 7 pulled 8 held");
        x.go(1);
        thingIs(x, 0, 5, 7, 10, 10, 1, 0, 0);
    }

    static void terms2_movesNoFartherThanTheCart() {
        String traits = " heavy 5 pulled 99";
        IronCall x = Check.from("cart 7 pace 0; loud 0; needle at 7" + traits + "; needle at 8" + traits + "; needle at 9"
                + traits + "; needle at 10" + traits + "; needle at 11" + traits + "; needle at 5" + traits
                + "; needle at 3" + traits);
        x.go(1);
        int[] cells = {7, 7, 7, 7, 8, 7, 6};
        int[] moved = {0, 1, 2, 3, 3, 2, 3};
        for (int thing = 0; thing < 7; thing++) {
            thingIs(x, thing, 5, cells[thing], 5, 94, 0, 0, moved[thing]);
        }
    }

    static void terms2_movesToTheEndsOfTheCells() {
        IronCall x = Check.from("cart 0 pace 0; loud 0; needle at 2 heavy 5 pulled 9; bed at 13 held");
        x.go(1);
        thingIs(x, 0, 5, 0, 5, 4, 0, 0, 2);
        IronCall y = Check.from("cart 15 pace 0; loud 0; needle at 13 heavy 5 pulled 9");
        y.go(1);
        thingIs(y, 0, 5, 15, 5, 4, 0, 0, 2);
    }

    static void terms2_movedUpTo9999() {
        String traits = " heavy 5 pulled 9";
        IronCall x = Check.from("cart 7 pace 0; loud 0; needle at 11" + traits + "; needle at 11" + traits
                + "; needle at 11" + traits + "; needle at 11" + traits);
        int[] moved = {9995, 9996, 9997, 9999};
        for (int thing = 0; thing < 4; thing++) {
            x.change(thing, 6, moved[thing]);
        }
        x.go(1);
        int[] then = {9998, 9999, 9999, 9999};
        for (int thing = 0; thing < 4; thing++) {
            thingIs(x, thing, 5, 8, 5, 4, 0, 0, then[thing]);
        }
    }

    // ---- text 2: taken, rested

    static void terms2_takenAtTheCartsCellAlone() {
        IronCall x = Check.from("cart 4 pace 0; loud 0; thing at 4; thing at 5; thing at 3");
        due(x.go(1), 1);
    }

    static void terms2_takenWhereTheCartHasCome() {
        IronCall x = Check.from("cart 4; loud 0; thing at 4; thing at 5");
        due(x.go(1), 2);
    }

    static void terms2_takenWhereItHasMoved() {
        IronCall x = Check.from("cart 4 pace 0; loud 0; thing at 5 pulled 10; thing at 5 pulled 9");
        due(x.go(1), 1);
        thingIs(x, 0, 0, 4, 10, 0, 0, 1, 1);
        thingIs(x, 1, 0, 5, 10, 8, 0, 0, 0);
    }

    static void terms2_heldIsNotTaken() {
        IronCall x = Check.from("cart 4 pace 0; loud 0; thing at 4 held; thing at 4");
        due(x.go(1), 2);
    }

    static void terms2_notLikedIsNotTaken() {
        IronCall x = Check.from("cart 4 pace 0; loud 0; iron at 4 heavy 20; iron at 4 heavy 21");
        due(x.go(1), 1);
    }

    static void terms2_takenIsNeitherPulledNorRested() {
        IronCall x = Check.from("cart 4 pace 0; loud 9; thing at 4 heavy 99 pulled 5; thing at 6 heavy 99 pulled 5");
        x.change(1, 5, 1);
        due(x.go(1), 3);
        // Taken in this call, it was pulled and didn't rest; the other was neither.
        thingIs(x, 0, 0, 4, 99, 14, 0, 1, 0);
        thingIs(x, 1, 0, 6, 99, 5, 0, 1, 0);
        due(x.go(9), 3);
        thingIs(x, 0, 0, 4, 99, 14, 0, 1, 0);
        thingIs(x, 1, 0, 6, 99, 5, 0, 1, 0);
    }

    private static void rests(String kind, int rests) {
        IronCall x = new IronCall();
        Check.text(x, "loud 0; cart 0 pace 0");
        for (int i = -1; i <= 1; i++) {
            int pulled = Math.max(rests + i, 0);
            Check.text(x, kind + " at " + (9 + i) + " pulled " + pulled);
        }
        x.go(1);
        due(x.of(0, 3), 0);
        due(x.of(1, 3), 0);
        due(x.of(2, 3), 1);
    }

    static void terms2_restsDownTo0() {
        rests("thing", 1);
        rests("gold", 2);
        rests("bed", 2);
        rests("crown", 4);
    }

    static void terms2_restsByNothing() {
        IronCall x = Check.from("loud 0; cart 0 pace 0; iron at 9 pulled 1; sword at 9 pulled 1; needle at 9 pulled 1");
        x.go(60);
        due(x.of(0, 3), 1);
        due(x.of(1, 3), 1);
        due(x.of(2, 3), 1);
    }

    static void terms2_thingsByNumbers() {
        // The lower one comes to the crown's cell before that feels, the greater one behind it.
        IronCall x = Check.from("cart 5 pace 0; loud 0; needle at 6 heavy 1 pulled 1; crown at 5 heavy 99 pulled 50 held;"
                + " needle at 4 heavy 1 pulled 1");
        x.go(1);
        due(x.of(0, 1), 5);
        due(x.of(2, 1), 5);
        due(x.of(1, 3), 50 + 1 - 4);
    }

    static void terms2_callIsOneMore() {
        IronCall x = new IronCall();
        due(x.count(0), 0);
        x.go(1);
        due(x.count(0), 1);
        x.calls(1);
        due(x.count(0), 2);
    }

    /** Behind the 512th call, where nothing is promised: CALL is 99999 at most, also ahead of that. */
    static void terms2_callUpTo99999() {
        IronCall x = new IronCall();
        for (int i = 0; i < 1666; i++) {
            x.go(60);
        }
        x.go(39);
        due(x.count(0), 99999);
        due(x.where(1), (99999 + 1) % 30 <= 15 ? (99999 + 1) % 30 : 30 - (99999 + 1) % 30);
        due(x.count(0), 99999);
    }

    // ---- text 2: draws

    static void terms2_drawIsAnInt() {
        // From 1: 1103527590, then 2524885223, which is below 0 as an int; >>> 8 it is 9862832.
        IronCall x = new IronCall();
        x.set(2, 0);
        x.calls(1);
        due(x.count(6), -1770082073);
        due(x.cart(0), 4310654 % 16);
        due(x.cart(3), 9862832 % 21);
    }

    static void terms2_drawFromTheEndsOfTheInts() {
        int[] seeds = {LEAST, GREATEST, 0, -1};
        for (int seed : seeds) {
            IronCall x = new IronCall();
            x.set(2, 0);
            x.seed(seed);
            x.calls(1);
            long first = (seed * 1103515245L + 12345) & 0xffffffffL;
            long second = (first * 1103515245L + 12345) & 0xffffffffL;
            due(x.cart(0), (first >> 8) % 16);
            due(x.cart(3), (second >> 8) % 21);
            due(x.count(6), (int) second);
        }
    }

    // ---- text 1: of several the least

    static void terms1_ofSeveralTheLeast() {
        tells(() -> Check.from("cart 4; thing at 5; thing at 3; thing at 5"), 0, x -> x.now(5));
        tells(() -> Check.from("cart 4 pace 0; thing at 9; thing at 3"), 3, x -> x.startFor(1));
        tells(() -> Check.from("cart 8 pace 0; loud 20; iron"), 0, x -> x.layFor(0, 3));
        tells(() -> Check.from("cart 8 pace 0; loud 20; thing heavy 5"), 0, x -> x.kindFor(0, 8));
        IronCall y = Check.from("cart 4 pace 0; bed at 5 heavy 9; bed at 5 heavy 9; crown at 4 heavy 99 pulled 3");
        due(y.holdFast(1), 4);
        y.change(2, 3, 1);
        due(y.holdFast(1), 1);
    }
}
