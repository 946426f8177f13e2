/** Boundary cases of promises 10 to 15: what will be, with nothing changed. */
public final class AheadEdgeTest extends Edge {
    // GOLD of 99 feels 3 and rests 2 each call: 97 calls for a CELL, 3 CELLS off, less what it is PULLED at first.
    private static final String AT_200 = "cart 3 pace 0; loud 12; gold at 6 heavy 99 pulled 91; bed at 3 held";
    private static final String AT_201 = "cart 3 pace 0; loud 12; gold at 6 heavy 99 pulled 90; bed at 3 held";

    public static void main(String[] args) {
        runAll(AheadEdgeTest.class);
    }

    // ---- promise 10: ahead

    static void promise10_nTooSmall() {
        tells(44, x -> x.ahead(2, 3, 0));
        refused(BEYOND, x -> x.ahead(2, 3, -1));
    }

    static void promise10_nTooLarge() {
        IronCall x = lived();
        x.go(60);
        x.go(40);
        tells(x.of(2, 3), y -> y.ahead(2, 3, 100));
        refused(BEYOND, y -> y.ahead(2, 3, 101));
    }

    static void promise10_hundredIsNot99() {
        // It is pulled by 2 each call.
        tells(() -> Check.from("cart 4 pace 0; loud 5; needle at 7 held"), 200, x -> x.ahead(0, 3, 100));
        tells(() -> Check.from("cart 4 pace 0; loud 5; needle at 7 held"), 198, x -> x.ahead(0, 3, 99));
    }

    static void promise10_thingTooSmall() {
        tells(6, x -> x.ahead(0, 1, 0));
        refused(BEYOND, x -> x.ahead(-1, 1, 0));
    }

    static void promise10_thingTooLarge() {
        tells(4, x -> x.ahead(4, 1, 0));
        refused(BEYOND, x -> x.ahead(5, 1, 0));
        refused(Edge::full, BEYOND, x -> x.ahead(8, 1, 0));
        refused(Edge::fresh, BEYOND, x -> x.ahead(0, 1, 0));
    }

    static void promise10_whatIsNot1Or3Or5Or6() {
        tells(12, x -> x.ahead(2, 1, 0));
        tells(44, x -> x.ahead(2, 3, 0));
        tells(1, x -> x.ahead(3, 5, 0));
        tells(4, x -> x.ahead(0, 6, 0));
        int[] others = {-1, 0, 2, 4, 7, 8, 9, 10, 11, 12, LEAST, GREATEST};
        for (int what : others) {
            refused(BEYOND, x -> x.ahead(2, what, 0));
        }
    }

    static void promise10_farBeyond() {
        refused(BEYOND, x -> x.ahead(LEAST, 1, 0));
        refused(BEYOND, x -> x.ahead(GREATEST, 1, 0));
        refused(BEYOND, x -> x.ahead(0, 1, LEAST));
        refused(BEYOND, x -> x.ahead(0, 1, GREATEST));
    }

    static void promise10_askedAgain() {
        Street street = () -> Check.from("cart 4 pace 0; loud 5; needle at 7 held");
        tells(street, 6, x -> x.ahead(0, 3, 100) - 200 + x.ahead(0, 3, 3));
        tells(street, 0, x -> x.ahead(0, 3, 100) - 200 + x.ahead(0, 3, 0));
    }

    static void promise10_nothingChanges() {
        for (int what = 1; what <= 6; what++) {
            int asked = what;
            if (what != 2 && what != 4) {
                tells(Edge::turning, turning().ahead(1, asked, 9), x -> x.ahead(1, asked, 9));
            }
        }
    }

    // ---- promise 11: where

    static void promise11_nTooSmall() {
        tells(9, x -> x.where(0));
        refused(BEYOND, x -> x.where(-1));
    }

    static void promise11_nTooLarge() {
        tells(Edge::fresh, 100 - 3 * 30, x -> x.where(100));
        tells(Edge::fresh, 99 - 3 * 30, x -> x.where(99));
        refused(Edge::fresh, BEYOND, x -> x.where(101));
        refused(BEYOND, x -> x.where(101));
    }

    static void promise11_atTheEndsOfTheCells() {
        tells(Edge::fresh, 14, x -> x.where(14));
        tells(Edge::fresh, 15, x -> x.where(15));
        tells(Edge::fresh, 14, x -> x.where(16));
        tells(Edge::fresh, 1, x -> x.where(29));
        tells(Edge::fresh, 0, x -> x.where(30));
        tells(Edge::fresh, 1, x -> x.where(31));
    }

    static void promise11_pace0() {
        IronCall x = Check.from("cart 7 pace 0");
        due(x.where(100), 7);
    }

    static void promise11_farBeyond() {
        refused(BEYOND, x -> x.where(LEAST));
        refused(BEYOND, x -> x.where(GREATEST));
    }

    static void promise11_askedAgain() {
        tells(Edge::fresh, 20, x -> x.where(100) + x.where(100));
        tells(Edge::fresh, 11, x -> x.where(100) + x.where(1));
    }

    static void promise11_nothingChanges() {
        tells(Edge::turning, turning().where(9), x -> x.where(9));
    }

    // ---- promise 12: taken

    static void promise12_takenNow() {
        tells(0, x -> x.taken(3));
    }

    static void promise12_behindOneCall() {
        tells(() -> Check.from("thing at 1"), 1, x -> x.taken(0));
        tells(() -> Check.from("cart 4 pace 0; thing at 4"), 1, x -> x.taken(0));
    }

    static void promise12_behind200Calls() {
        tells(() -> Check.from(AT_200), 200, x -> x.taken(0));
        IronCall x = Check.from(AT_200);
        x.go(60);
        x.go(60);
        x.go(60);
        due(x.go(19), 0);
        due(x.taken(0), 1);
        due(x.go(1), 1);
    }

    static void promise12_behind201CallsIsNone() {
        refused(() -> Check.from(AT_201), NONE, x -> x.taken(0));
        IronCall x = Check.from(AT_201);
        x.go(1);
        due(x.taken(0), 200);
    }

    static void promise12_neverIsNone() {
        refused(NONE, x -> x.taken(2));
    }

    static void promise12_thingTooSmall() {
        tells(() -> Check.from("thing at 1"), 1, x -> x.taken(0));
        refused(BEYOND, x -> x.taken(-1));
    }

    static void promise12_thingTooLarge() {
        IronCall x = lived();
        x.change(4, 5, 1);
        due(x.taken(4), 0);
        refused(BEYOND, y -> y.taken(5));
        refused(Edge::full, BEYOND, y -> y.taken(8));
        refused(Edge::fresh, BEYOND, y -> y.taken(0));
    }

    static void promise12_farBeyond() {
        refused(BEYOND, x -> x.taken(LEAST));
        refused(BEYOND, x -> x.taken(GREATEST));
    }

    static void promise12_askedAgain() {
        tells(() -> Check.from(AT_200), 400, x -> x.taken(0) + x.taken(0));
    }

    static void promise12_nothingChanges() {
        tells(Edge::turning, turning().taken(1), x -> x.taken(1));
    }

    // ---- promise 13: when

    static void promise13_thereNow() {
        tells(0, x -> x.when(2, 12));
        // Also what is TAKEN.
        tells(0, x -> x.when(3, 3));
    }

    static void promise13_behindOneCall() {
        tells(() -> Check.from("cart 4 pace 0; loud 0; thing at 6 pulled 10"), 1, x -> x.when(0, 5));
    }

    static void promise13_behind200Calls() {
        tells(() -> Check.from(AT_200), 200, x -> x.when(0, 3));
        tells(() -> Check.from(AT_200), 103, x -> x.when(0, 4));
        tells(() -> Check.from(AT_200), 6, x -> x.when(0, 5));
    }

    static void promise13_behind201CallsIsNone() {
        refused(() -> Check.from(AT_201), NONE, x -> x.when(0, 3));
    }

    static void promise13_neverIsNone() {
        refused(NONE, x -> x.when(2, 0));
        refused(NONE, x -> x.when(3, 4));
    }

    static void promise13_cellTooSmall() {
        tells(() -> Check.from("bed held"), 0, x -> x.when(0, 0));
        refused(BEYOND, x -> x.when(2, -1));
    }

    static void promise13_cellTooLarge() {
        tells(() -> Check.from("bed at 15 held"), 0, x -> x.when(0, 15));
        refused(BEYOND, x -> x.when(2, 16));
    }

    static void promise13_thingTooSmall() {
        tells(0, x -> x.when(0, 6));
        refused(BEYOND, x -> x.when(-1, 6));
    }

    static void promise13_thingTooLarge() {
        tells(0, x -> x.when(4, 4));
        refused(BEYOND, x -> x.when(5, 4));
        refused(Edge::full, BEYOND, x -> x.when(8, 4));
        refused(Edge::fresh, BEYOND, x -> x.when(0, 0));
    }

    static void promise13_farBeyond() {
        refused(BEYOND, x -> x.when(LEAST, 0));
        refused(BEYOND, x -> x.when(GREATEST, 0));
        refused(BEYOND, x -> x.when(0, LEAST));
        refused(BEYOND, x -> x.when(0, GREATEST));
    }

    static void promise13_askedAgain() {
        tells(() -> Check.from(AT_200), 400, x -> x.when(0, 3) + x.when(0, 3));
    }

    static void promise13_nothingChanges() {
        tells(Edge::turning, turning().when(1, 4), x -> x.when(1, 4));
    }

    // ---- promise 14: meet

    static void promise14_togetherNow() {
        tells(0, x -> x.meet(1, 3));
        tells(0, x -> x.meet(3, 1));
    }

    static void promise14_behindOneCall() {
        tells(() -> Check.from("cart 4 pace 0; loud 0; thing at 6 pulled 10; bed at 5"), 1, x -> x.meet(0, 1));
    }

    static void promise14_behind200Calls() {
        tells(() -> Check.from(AT_200), 200, x -> x.meet(0, 1));
        tells(() -> Check.from(AT_200), 200, x -> x.meet(1, 0));
    }

    static void promise14_behind201CallsIsNone() {
        refused(() -> Check.from(AT_201), NONE, x -> x.meet(0, 1));
        refused(() -> Check.from(AT_201), NONE, x -> x.meet(1, 0));
    }

    static void promise14_neverIsNone() {
        refused(() -> Check.from("bed at 3 held; bed at 4 held"), NONE, x -> x.meet(0, 1));
    }

    static void promise14_takenOrNot() {
        IronCall x = Check.from("cart 4 pace 0; loud 0; thing at 4; bed at 4 held");
        x.change(1, 5, 1);
        due(x.meet(0, 1), 0);
        x.go(1);
        due(x.meet(0, 1), 0);
    }

    static void promise14_oneAndTheSame() {
        refused(BEYOND, x -> x.meet(0, 0));
        refused(BEYOND, x -> x.meet(4, 4));
        refused(BEYOND, x -> x.meet(-1, -1));
        refused(BEYOND, x -> x.meet(5, 5));
    }

    static void promise14_firstTooSmallOrTooLarge() {
        tells(0, x -> x.meet(1, 3));
        refused(BEYOND, x -> x.meet(-1, 3));
        refused(BEYOND, x -> x.meet(5, 3));
    }

    static void promise14_secondTooSmallOrTooLarge() {
        tells(0, x -> x.meet(3, 1));
        refused(BEYOND, x -> x.meet(3, -1));
        refused(BEYOND, x -> x.meet(3, 5));
    }

    static void promise14_firstAndLastOfEight() {
        IronCall x = full();
        x.change(0, 1, 1);
        due(x.meet(0, 7), 0);
        due(x.meet(7, 0), 0);
        refused(Edge::full, BEYOND, y -> y.meet(0, 8));
        refused(Edge::full, BEYOND, y -> y.meet(8, 0));
    }

    static void promise14_noThings() {
        refused(Edge::fresh, BEYOND, x -> x.meet(0, 1));
        refused(() -> Check.from("bed"), BEYOND, x -> x.meet(0, 1));
        refused(() -> Check.from("bed"), BEYOND, x -> x.meet(1, 0));
    }

    static void promise14_farBeyond() {
        refused(BEYOND, x -> x.meet(LEAST, 0));
        refused(BEYOND, x -> x.meet(0, LEAST));
        refused(BEYOND, x -> x.meet(GREATEST, 0));
        refused(BEYOND, x -> x.meet(0, GREATEST));
    }

    static void promise14_askedAgain() {
        tells(() -> Check.from(AT_200), 400, x -> x.meet(0, 1) + x.meet(0, 1));
    }

    static void promise14_nothingChanges() {
        tells(Edge::turning, turning().meet(1, 3), x -> x.meet(1, 3));
    }

    // ---- promise 15: strained

    /** It is PULLED by so much each call. */
    private static IronCall needle(int feels, int pulled) {
        IronCall x = Check.from("cart 4 pace 0; needle at 7 held");
        x.set(3, 3 + feels);
        x.change(0, 3, pulled);
        return x;
    }

    static void promise15_vTooSmall() {
        tells(0, x -> x.strained(2, 0));
        tells(0, x -> x.strained(4, 0));
        refused(BEYOND, x -> x.strained(2, -1));
    }

    static void promise15_vTooLarge() {
        tells(() -> needle(1, 999), 0, x -> x.strained(0, 999));
        tells(() -> needle(1, 998), 1, x -> x.strained(0, 999));
        refused(() -> needle(1, 999), BEYOND, x -> x.strained(0, 1000));
    }

    static void promise15_justAsMuchNow() {
        tells(() -> needle(1, 44), 0, x -> x.strained(0, 44));
        tells(() -> needle(1, 44), 1, x -> x.strained(0, 45));
    }

    static void promise15_behind200Calls() {
        tells(() -> needle(4, 0), 200, x -> x.strained(0, 800));
        tells(() -> needle(4, 0), 199, x -> x.strained(0, 796));
        tells(() -> needle(5, 0), 200, x -> x.strained(0, 999));
    }

    static void promise15_behind201CallsIsNone() {
        refused(() -> needle(4, 0), NONE, x -> x.strained(0, 801));
        tells(() -> needle(4, 1), 200, x -> x.strained(0, 801));
    }

    static void promise15_neverIsNone() {
        refused(() -> needle(0, 0), NONE, x -> x.strained(0, 1));
    }

    static void promise15_takenStaysAsItIs() {
        IronCall x = needle(5, 7);
        x.change(0, 5, 1);
        due(x.strained(0, 7), 0);
        due(x.strained(0, 8), NONE);
    }

    static void promise15_thingTooSmall() {
        tells(0, x -> x.strained(0, 0));
        refused(BEYOND, x -> x.strained(-1, 0));
    }

    static void promise15_thingTooLarge() {
        tells(0, x -> x.strained(4, 0));
        refused(BEYOND, x -> x.strained(5, 0));
        refused(Edge::full, BEYOND, x -> x.strained(8, 0));
        refused(Edge::fresh, BEYOND, x -> x.strained(0, 0));
    }

    static void promise15_farBeyond() {
        refused(BEYOND, x -> x.strained(LEAST, 0));
        refused(BEYOND, x -> x.strained(GREATEST, 0));
        refused(BEYOND, x -> x.strained(0, LEAST));
        refused(BEYOND, x -> x.strained(0, GREATEST));
    }

    static void promise15_askedAgain() {
        tells(() -> needle(4, 0), 400, x -> x.strained(0, 800) + x.strained(0, 800));
    }

    static void promise15_nothingChanges() {
        tells(Edge::turning, turning().strained(2, 55), x -> x.strained(2, 55));
    }
}
