/** Boundary cases of promises 37 to 41: images, counts, findings. */
public final class ImagesEdgeTest extends Edge {
    public static void main(String[] args) {
        runAll(ImagesEdgeTest.class);
    }

    // ---- promise 37: image

    static void promise37_firstAndLaterOnes() {
        IronCall x = new IronCall();
        due(x.image(), 1);
        due(x.image(), 1);
        x.go(1);
        due(x.image(), 1);
        due(x.undo(), 1);
    }

    static void promise37_nothingElseChanges() {
        IronCall x = lived();
        IronCall twin = lived();
        due(x.image(), 1);
        due(x.tear(), 1);
        due(twin.tear(), 1);
        same(x, twin);
    }

    static void promise37_theTapeStays() {
        IronCall x = lived();
        int bytes = x.count(5);
        due(bytes > 0 ? 1 : 0, 1);
        due(x.image(), 1);
        due(x.count(5), bytes);
        due(x.text(), 2);
    }

    static void promise37_ofAnEmptyStreet() {
        IronCall x = new IronCall();
        due(x.image(), 1);
        spoil(x);
        due(x.undo(), 0);
        cartIs(x, 0, 1, 1, 8);
        due(x.count(1), 0);
        due(x.count(6), 1);
        due(x.count(7), 0);
    }

    /** Whatever can be changed in a street. */
    private static void spoil(IronCall x) {
        int[] cart = {3, 1, 3, 20};
        for (int what = 0; what < 4; what++) {
            x.set(what, cart[what]);
        }
        for (int thing = 0; thing < x.count(1); thing++) {
            int[] other = {1 + x.of(thing, 0) % 6, 14, 98, 997, 1 - x.of(thing, 4), 1 - x.of(thing, 5), 8000};
            for (int what = 0; what < 7; what++) {
                x.change(thing, what, other[what]);
            }
        }
        x.thing(2, 2);
        for (int spot = 0; spot < 10; spot++) {
            x.hold(spot, spot == 7 ? -1 : 0);
        }
        x.calls(3);
    }

    static void promise37_ofAFullStreet() {
        IronCall x = full();
        IronCall twin = full();
        x.image();
        twin.image();
        spoil(x);
        due(x.undo(), 0);
        same(x, twin);
    }

    static void promise37_allButTapeAndSheets() {
        IronCall x = lived();
        IronCall twin = lived();
        x.image();
        twin.image();
        spoil(x);
        due(x.undo(), 5);
        same(x, twin);
    }

    static void promise37_tapeAndSheetsAreNotKept() {
        IronCall x = lived();
        x.image();
        x.wipe();
        Check.feed(x, "bed");
        x.sheet(0, 0, 0);
        x.write(1, 0, 99);
        x.sheet(3, 8, 1);
        due(x.undo(), 5);
        due(x.count(5), 3);
        due(x.judge(0), MISSING);
        due(x.load(1), 2);
        thingIs(x, 0, 1, 6, 99);
        due(x.judge(3), 1);
    }

    // ---- promise 38: undo

    static void promise38_nothingIsKept() {
        refused(Edge::fresh, NONE, x -> x.undo());
        refused(() -> Check.from("bed at 3; loud 2"), NONE, x -> x.undo());
    }

    static void promise38_somethingIsKept() {
        IronCall x = lived();
        due(x.undo(), 3);
        due(x.count(0), 3);
        due(x.count(1), 2);
        thingIs(x, 0, 1, 6, 10, 0, 0, 0, 0);
        thingIs(x, 1, 2, 3, 10, 0, 0, 0, 0);
        cartIs(x, 5, 1, 0, 0);
        due(x.as(2, 2), 1);
        due(x.as(7, 0), MISSING);
        due(x.count(6), 1);
    }

    static void promise38_whatIsKeptStays() {
        IronCall x = lived();
        IronCall twin = lived();
        twin.undo();
        due(x.undo(), 3);
        spoil(x);
        due(x.undo(), 3);
        due(x.undo(), 3);
        same(x, twin);
    }

    static void promise38_theLatest() {
        IronCall x = new IronCall();
        x.image();
        x.go(1);
        x.image();
        x.go(1);
        due(x.undo(), 1);
        due(x.undo(), 1);
        due(x.cart(0), 1);
    }

    static void promise38_callIs0() {
        IronCall x = new IronCall();
        x.image();
        x.go(60);
        due(x.undo(), 0);
        due(x.status(-1), 0);
    }

    static void promise38_thingsMadeSinceAreNoMore() {
        madeSinceAreNoMore(0);
    }

    static void promise38_thingsTakenSinceAreNoMore() {
        madeSinceAreNoMore(1);
    }

    private static void madeSinceAreNoMore(int taken) {
        IronCall x = full();
        for (int i = 0; i < 8; i++) {
            int[] most = {0, 3, 99, 999, 1, taken, 9999};
            for (int what = 0; what < 7; what++) {
                x.change(i, what, most[what]);
            }
        }
        due(x.undo(), 0);
        due(x.of(0, 0), BEYOND);
        int[] now = {0, 0, 0, 0, 0, -1, 0, 0};
        int[] count = {0, 0, 0, 0, 0, 120, 1, 0};
        for (int what = 0; what < 8; what++) {
            due(x.now(what), now[what]);
            due(x.count(what), count[what]);
        }
        due(x.who(3), 0);
        due(x.startFor(60), 0);
        due(x.holdFast(20), 0);
        due(x.go(60), 0);
        for (int i = 0; i < 8; i++) {
            due(x.thing(0, 0), i);
        }
        due(x.thing(0, 0), FULL);
    }

    static void promise38_refusedBehindATear() {
        Street torn = () -> {
            IronCall x = lived();
            x.tear();
            return x;
        };
        refused(torn, NONE, x -> x.undo());
    }

    // ---- promise 39: tear

    static void promise39_nothingIsKept() {
        tells(Edge::fresh, 0, x -> x.tear());
    }

    static void promise39_somethingWasKept() {
        IronCall x = lived();
        due(x.tear(), 1);
        due(x.tear(), 0);
        due(x.undo(), NONE);
        due(x.image(), 1);
        due(x.tear(), 1);
    }

    static void promise39_theEarlierOneIsNotKeptEither() {
        IronCall x = new IronCall();
        x.image();
        x.go(1);
        x.image();
        due(x.tear(), 1);
        due(x.undo(), NONE);
        due(x.count(0), 1);
    }

    // ---- promise 40: count

    static void promise40_whatTooSmall() {
        tells(5, x -> x.count(0));
        refused(BEYOND, x -> x.count(-1));
    }

    static void promise40_whatTooLarge() {
        tells(2, x -> x.count(7));
        refused(BEYOND, x -> x.count(8));
    }

    static void promise40_farBeyond() {
        refused(BEYOND, x -> x.count(LEAST));
        refused(BEYOND, x -> x.count(GREATEST));
    }

    static void promise40_each() {
        int[] due = {5, 5, 1, 50, 4, 16, 77, 2};
        for (int what = 0; what < 8; what++) {
            int asked = what;
            tells(due[what], x -> x.count(asked));
        }
    }

    static void promise40_emptyStreet() {
        int[] due = {0, 0, 0, 0, 0, 0, 1, 0};
        for (int what = 0; what < 8; what++) {
            int asked = what;
            tells(Edge::fresh, due[what], x -> x.count(asked));
        }
    }

    static void promise40_fullStreet() {
        IronCall x = full();
        for (int i = 0; i < 8; i++) {
            x.change(i, 3, 999);
            x.change(i, 5, 1);
            x.change(i, 6, 9999);
        }
        x.seed(GREATEST);
        int[] due = {0, 8, 8, 8 * 999, 8 * 9999, 120, GREATEST, 10};
        for (int what = 0; what < 8; what++) {
            due(x.count(what), due[what]);
        }
    }

    static void promise40_zIsNoFinding() {
        IronCall x = new IronCall();
        x.seed(BEYOND);
        due(x.count(6), BEYOND);
        x.seed(LEAST);
        due(x.count(6), LEAST);
        due(x.status(-1), 0);
    }

    // ---- promise 41: status

    static void promise41_whichTooSmall() {
        tells(1, x -> x.status(-1));
        refused(BEYOND, x -> x.status(-2));
    }

    static void promise41_whichTooLarge() {
        tells(0, x -> x.status(6));
        refused(BEYOND, x -> x.status(7));
    }

    static void promise41_farBeyond() {
        refused(BEYOND, x -> x.status(LEAST));
        refused(BEYOND, x -> x.status(GREATEST));
    }

    static void promise41_beyondIsCountedFromThenOn() {
        IronCall x = new IronCall();
        due(x.status(0), 0);
        due(x.status(7), BEYOND);
        due(x.status(0), 1);
        due(x.status(-1), 1);
        due(x.status(-2), BEYOND);
        due(x.status(0), 2);
        due(x.status(-1), 2);
    }

    static void promise41_eachOfTheFindings() {
        IronCall x = full();
        Act[] acts = {y -> y.who(16), y -> y.thing(0, 0), y -> y.as(0, 1), y -> y.taken(4), y -> y.load(0),
            y -> y.sheet(0, 8, -1)};
        int[] which = {0, 1, 2, 3, 5, 6};
        for (int i = 0; i < acts.length; i++) {
            for (int n = 0; n <= i; n++) {
                due(acts[i].on(x), BEYOND - which[i]);
            }
            due(x.status(which[i]), i + 1);
        }
        due(x.status(4), 0);
        due(x.status(-1), 21);
    }

    static void promise41_undoTakesNoneBack() {
        IronCall x = lived();
        x.who(16);
        x.load(3);
        due(x.undo(), 3);
        due(x.status(0), 2);
        due(x.status(5), 1);
        due(x.status(-1), 3);
    }

    static void promise41_imageAndTearTakeNoneBack() {
        IronCall x = lived();
        x.image();
        due(x.status(-1), 1);
        x.tear();
        due(x.status(-1), 1);
    }

    static void promise41_longFindingsCount() {
        IronCall x = new IronCall();
        due(x.odds(0, 0, 0, 0), BEYOND);
        due(x.status(0), 1);
    }

    static void promise41_faultsAndNoughtsAreNone() {
        IronCall x = new IronCall();
        x.text();
        Check.text(x, "zzz");
        x.now(5);
        x.tear();
        x.wipe();
        x.who(0);
        due(x.status(-1), 0);
    }
}
