/** Boundary cases of promises 8 and 9: go, now. */
public final class CallsEdgeTest extends Edge {
    public static void main(String[] args) {
        runAll(CallsEdgeTest.class);
    }

    // ---- promise 8: go

    static void promise8_nTooSmall() {
        IronCall x = lived();
        // The iron comes to the cart at 7; the bed was taken before.
        due(x.go(1), 1 | 8);
        due(x.count(0), 6);
        refused(BEYOND, y -> y.go(0));
        refused(BEYOND, y -> y.go(-1));
    }

    static void promise8_nTooLarge() {
        IronCall x = lived();
        IronCall y = lived();
        int taken = x.go(60);
        due(x.count(0), 65);
        for (int i = 1; i < 60; i++) {
            y.go(1);
        }
        due(y.go(1), taken);
        same(x, y);
        refused(BEYOND, z -> z.go(61));
    }

    static void promise8_farBeyond() {
        refused(BEYOND, x -> x.go(LEAST));
        refused(BEYOND, x -> x.go(GREATEST));
    }

    static void promise8_noThings() {
        IronCall x = new IronCall();
        due(x.go(60), 0);
        due(x.count(0), 60);
        due(x.cart(0), 0);
        refused(Edge::fresh, BEYOND, y -> y.go(0));
    }

    static void promise8_noneIsTaken() {
        IronCall x = Check.from("bed; bed; needle");
        due(x.go(60), 0);
    }

    static void promise8_takenBeforeAreTold() {
        IronCall x = Check.from("bed at 9; thing at 1; bed");
        x.change(0, 5, 1);
        due(x.go(1), 1 | 2);
    }

    static void promise8_allEightAreTaken() {
        IronCall x = new IronCall();
        for (int i = 0; i < 8; i++) {
            x.thing(i % 2 == 0 ? 0 : 2, 1);
        }
        due(x.go(1), 255);
        due(x.go(60), 255);
    }

    static void promise8_noStateWithin512Calls() {
        IronCall x = new IronCall();
        for (int i = 1; i <= 510; i++) {
            due(x.go(60), 0);
        }
        due(x.count(0), 30600);
        due(x.status(-1), 0);
    }

    /** Behind the 512th call, where nothing is promised: the last CALL that is taken, the first that is refused. */
    static void promise8_stateAbove99999() {
        IronCall x = late();
        due(x.go(60), STATE);
        due(x.go(40), STATE);
        due(x.status(4), 2);
        due(x.count(0), 99960);
        due(x.cart(0), 0);
        due(x.go(61), BEYOND);
        due(x.go(0), BEYOND);
        due(x.go(39), 0);
        due(x.count(0), 99999);
        due(x.go(1), STATE);
        due(x.count(0), 99999);
    }

    /** At CALL 99960. */
    static IronCall late() {
        IronCall x = new IronCall();
        for (int i = 0; i < 1666; i++) {
            x.go(60);
        }
        return x;
    }

    // ---- promise 9: now

    static void promise9_whatTooSmall() {
        tells(5, x -> x.now(0));
        refused(BEYOND, x -> x.now(-1));
    }

    static void promise9_whatTooLarge() {
        tells(4, x -> x.now(7));
        refused(BEYOND, x -> x.now(8));
    }

    static void promise9_farBeyond() {
        refused(BEYOND, x -> x.now(LEAST));
        refused(BEYOND, x -> x.now(GREATEST));
    }

    static void promise9_takenNoneAndAll() {
        IronCall x = full();
        due(x.now(1), 0);
        due(x.now(4), 0);
        for (int i = 0; i < 8; i++) {
            x.change(i, 5, 1);
        }
        due(x.now(1), 255);
        due(x.now(4), 80);
    }

    static void promise9_mostPulledMovedAndHeavy() {
        IronCall x = full();
        for (int i = 0; i < 8; i++) {
            x.change(i, 2, 99);
            x.change(i, 3, 999);
            x.change(i, 6, 9999);
            x.change(i, 5, 1);
        }
        due(x.now(2), 8 * 999);
        due(x.now(3), 8 * 9999);
        due(x.now(4), 8 * 99);
    }

    static void promise9_pulledAndMovedOfTheTakenToo() {
        IronCall x = Check.from("bed pulled 3; bed pulled 4");
        x.change(0, 5, 1);
        x.change(0, 6, 5);
        x.change(1, 6, 6);
        due(x.now(2), 7);
        due(x.now(3), 11);
    }

    static void promise9_feelsMostNoThings() {
        tells(Edge::fresh, -1, x -> x.now(5));
    }

    static void promise9_feelsMostAllTaken() {
        IronCall x = Check.from("bed; bed");
        x.change(1, 5, 1);
        due(x.now(5), 0);
        x.change(0, 5, 1);
        due(x.now(5), -1);
        due(x.status(-1), 0);
    }

    static void promise9_feelsMostIfAllFeelNothing() {
        IronCall x = Check.from("loud 0; thing at 3; thing at 3; thing at 3");
        due(x.now(5), 0);
        x.change(0, 5, 1);
        due(x.now(5), 1);
    }

    static void promise9_feelsMostOfSeveralTheLeast() {
        IronCall x = Check.from("loud 8; thing at 3; iron at 5; thing at 2; thing at 2");
        due(x.now(5), 1);
        x.change(1, 1, 6);
        // All but the first feel 6, 4, 6, 6.
        x.change(1, 0, 0);
        due(x.now(5), 2);
    }

    static void promise9_cellsAtTheEnds() {
        IronCall x = Check.from("bed; bed at 15; bed at 7");
        due(x.now(6), 1 | 1 << 7 | 1 << 15);
        x.change(1, 5, 1);
        due(x.now(6), 1 | 1 << 7);
        tells(Edge::fresh, 0, y -> y.now(6));
    }

    static void promise9_cellsOfWhichOneThingIsTaken() {
        IronCall x = Check.from("bed at 4; bed at 4");
        x.change(0, 5, 1);
        due(x.now(6), 16);
        x.change(1, 5, 1);
        due(x.now(6), 0);
    }

    static void promise9_heldNoneAndAll() {
        IronCall x = full();
        due(x.now(7), 0);
        for (int i = 0; i < 8; i++) {
            x.change(i, 4, 1);
        }
        due(x.now(7), 255);
        x.change(7, 5, 1);
        due(x.now(7), 255);
        x.change(7, 4, 0);
        due(x.now(7), 127);
    }
}
