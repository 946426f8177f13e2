/** Promises 16 to 21: how to call. */
public final class PlanTest {
    private static final Check check = new Check();
    private static final String STREET = "cart 5 back pace 2; loud 7; iron at 9 heavy 18; needle at 12 heavy 5;"
            + " crown at 4 heavy 7 pulled 3; sword at 14 heavy 30; gold at 4; bed at 0 pulled 20; thing at 15 heavy 3";
    private static final int THINGS = 7;

    public static void main(String[] args) {
        byTrying();
        loudFor();
        startFor();
        layFor();
        kindFor();
        heavyFor();
        holdFast();
        unchanged();
        outside();
        check.finish();
    }

    /** The street, tried with one value changed, n calls later. */
    private static IronCall tried(int thing, int what, int v, int n) {
        IronCall x = Check.from(STREET);
        if (thing < 0) {
            x.set(what, v);
        } else {
            x.change(thing, what, v);
        }
        if (n > 0) {
            x.go(n);
        }
        return x;
    }

    private static void byTrying() {
        IronCall x = Check.from(STREET);
        int[] calls = {0, 1, 2, 5, 9, 16, 33, 60};
        for (int n : calls) {
            int bestStart = 0;
            for (int cell = 15; cell >= 0; cell--) {
                if (tried(-1, 0, cell, n).now(4) >= tried(-1, 0, bestStart, n).now(4)) {
                    bestStart = cell;
                }
            }
            check.due("startFor " + n, x.startFor(n), bestStart);
            for (int thing = 0; thing < THINGS; thing++) {
                byTrying(x, thing, n);
            }
        }
    }

    private static void byTrying(IronCall x, int thing, int n) {
        int loud = Check.NONE;
        for (int v = 20; v >= 0; v--) {
            loud = tried(-1, 3, v, n).of(thing, 5) == 1 ? v : loud;
        }
        check.due("loudFor " + thing + " " + n, x.loudFor(thing, n), loud);
        int heavy = Check.NONE;
        for (int v = 99; v >= 1; v--) {
            heavy = tried(thing, 2, v, n).of(thing, 5) == 0 ? v : heavy;
        }
        check.due("heavyFor " + thing + " " + n, x.heavyFor(thing, n), heavy);
        check.due("layFor " + thing + " " + n, x.layFor(thing, n), furthest(thing, 1, 15, n));
        check.due("kindFor " + thing + " " + n, x.kindFor(thing, n), furthest(thing, 0, 6, n));
    }

    private static int furthest(int thing, int what, int most, int n) {
        int best = most;
        int moved = -1;
        for (int v = most; v >= 0; v--) {
            int by = tried(thing, what, v, n).of(thing, 6);
            if (by >= moved) {
                moved = by;
                best = v;
            }
        }
        return best;
    }

    private static void loudFor() {
        IronCall x = Check.from("cart 4 pace 0; thing at 5 heavy 6; thing at 4; bed at 4; thing at 4 held");
        // It must feel 6, 1 off from the cart.
        check.due("at once", x.loudFor(0, 1), 7);
        // Feeling 3 a call, it is at 2 + 2 + 3 behind the third's pull.
        check.due("in three", x.loudFor(0, 3), 4);
        check.due("in no call", x.loudFor(0, 0), Check.NONE);
        check.due("where the cart is", x.loudFor(1, 1), 0);
        check.due("never liked", x.loudFor(2, 60), Check.NONE);
        check.due("held", x.loudFor(3, 60), Check.NONE);
        x.change(3, 5, 1);
        check.due("taken already", x.loudFor(3, 0), 0);
        x.change(0, 2, 20);
        check.due("20 isn't loud enough", x.loudFor(0, 1), Check.NONE);
        x.change(0, 2, 19);
        check.due("20 is", x.loudFor(0, 1), 20);
    }

    private static void startFor() {
        IronCall x = Check.from("cart 9 pace 0; loud 0; thing at 3 heavy 20; gold at 7 heavy 30; thing at 7 heavy 5;"
                + " thing at 11 heavy 35; bed at 5 heavy 99");
        check.due("35 at 7, 35 at 11", x.startFor(1), 7);
        check.due("none is taken", x.startFor(0), 0);
        x.change(0, 2, 36);
        check.due("36 at 3", x.startFor(1), 3);
        x.set(2, 1);
        check.due("from 2 on its way to 3, with 1 way more", x.startFor(1), 2);
        check.due("from 2 or 6 to all but the last", x.startFor(9), 2);
        x.set(1, 0);
        check.due("backwards", x.startFor(1), 4);
        check.due("no things", new IronCall().startFor(60), 0);
    }

    private static void layFor() {
        IronCall x = Check.from("cart 8 pace 0; loud 20; iron heavy 10; iron held");
        // It moves a cell a call from anywhere, and is taken where the cart is.
        check.due("3 off, the least cell", x.layFor(0, 3), 0);
        check.due("8 off", x.layFor(0, 8), 0);
        check.due("in no call", x.layFor(0, 0), 0);
        check.due("held", x.layFor(1, 60), 0);
        x.set(3, 8);
        // Only where it feels 10 a call does it move each time: 3 off from the cart.
        check.due("3 calls", x.layFor(0, 3), 5);
        x.change(0, 2, 99);
        x.change(0, 5, 1);
        check.due("taken", x.layFor(0, 60), 0);
        check.due("8 off on the other side", Check.from("cart 7 pace 0; loud 20; iron").layFor(0, 8), 15);
    }

    private static void kindFor() {
        IronCall x = Check.from("cart 8 pace 0; loud 20; thing heavy 5; thing heavy 6; thing heavy 6 held");
        check.due("a light NEEDLE", x.kindFor(0, 2), 5);
        check.due("a SWORD", x.kindFor(1, 2), 3);
        check.due("held", x.kindFor(2, 60), 0);
        check.due("in no call", x.kindFor(0, 0), 0);
        // They are 8 off and get there in time.
        check.due("all the way, by the least", x.kindFor(0, 8), 0);
        x.set(3, 11);
        // A THING feels 3, rests 1: it moves first behind its third call. IRON feels 6.
        check.due("IRON moves at once, a SWORD twice", x.kindFor(1, 1), 3);
        IronCall y = Check.from("cart 8 pace 0; loud 0; thing heavy 1; bed");
        check.due("a CROWN feels its company", y.kindFor(0, 1), 6);
    }

    private static void heavyFor() {
        IronCall x = Check.from("cart 4 pace 0; loud 8; thing at 4; iron at 4; bed at 4; crown at 4 held; iron at 6 heavy 99");
        check.due("a THING is taken anyway", x.heavyFor(0, 1), Check.NONE);
        check.due("IRON isn't from 21 on", x.heavyFor(1, 1), 21);
        check.due("a BED is never", x.heavyFor(2, 60), 1);
        check.due("held", x.heavyFor(3, 60), 1);
        check.due("in no call", x.heavyFor(0, 0), 1);
        // It feels 12 two off, so that it doesn't go at once with 13.
        check.due("IRON from afar", x.heavyFor(4, 2), 13);
        x.change(2, 5, 1);
        check.due("taken already", x.heavyFor(2, 0), Check.NONE);
        check.due("just 99", Check.from("cart 4 pace 0; thing at 5 pulled 91").heavyFor(0, 1), 99);
        check.due("not even 99", Check.from("cart 4 pace 0; thing at 5 pulled 92").heavyFor(0, 1), Check.NONE);
        IronCall y = Check.from("cart 4 pace 0; crown at 4 heavy 9 pulled 9");
        check.due("a CROWN that is pulled less than 5", y.heavyFor(0, 1), 7);
    }

    private static void holdFast() {
        IronCall x = Check.from("cart 4 pace 0; thing at 5 heavy 7; thing at 4; bed at 4; gold at 4 held; thing at 15;"
                + " gold at 4");
        check.due("in no call", x.holdFast(0), 0);
        check.due("1 at the cart, 5 there, 0 near", x.holdFast(1), 1 | 2 | 32);
        x.change(1, 5, 1);
        check.due("what is taken isn't held", x.holdFast(20), 1 | 32);
        x.change(0, 1, 15);
        check.due("far ones stay", x.holdFast(20), 32);
        x.change(5, 4, 1);
        check.due("held already", x.holdFast(20), 0);
        check.due("no things", new IronCall().holdFast(20), 0);
        // The crown feels 2, and 1 for each bed that comes to its cell: 5 with both.
        IronCall y = Check.from("cart 4 pace 0; bed at 5 heavy 9; bed at 5 heavy 9; crown at 4 heavy 99 pulled 1");
        check.due("a bed held keeps the crown", y.holdFast(1), 1);
        y.change(2, 3, 2);
        check.due("two beds or the crown", y.holdFast(1), 4);
        y.change(2, 4, 1);
        check.due("the crown is held already", y.holdFast(1), 0);
        IronCall z = new IronCall();
        for (int i = 0; i < 8; i++) {
            z.thing(0, 4);
        }
        z.set(0, 4);
        z.set(2, 0);
        check.due("all eight", z.holdFast(1), 255);
    }

    private static void unchanged() {
        IronCall x = Check.from(STREET);
        IronCall y = Check.from(STREET);
        for (int thing = 0; thing < THINGS; thing++) {
            x.loudFor(thing, 20);
            x.layFor(thing, 20);
            x.kindFor(thing, 20);
            x.heavyFor(thing, 20);
        }
        x.startFor(20);
        x.holdFast(20);
        for (int thing = 0; thing < THINGS; thing++) {
            for (int what = 0; what < 12; what++) {
                check.due("unchanged " + thing + " " + what, x.of(thing, what), y.of(thing, what));
            }
        }
        for (int what = 0; what < 8; what++) {
            check.due("unchanged count " + what, x.count(what), y.count(what));
        }
        for (int what = 0; what < 4; what++) {
            check.due("unchanged cart " + what, x.cart(what), y.cart(what));
        }
    }

    private static void outside() {
        IronCall x = Check.from("thing at 3");
        int[][] wrong = {{-1, 0}, {1, 0}, {0, -1}, {0, 61}, {0, Integer.MIN_VALUE}, {Integer.MAX_VALUE, 1}};
        for (int[] w : wrong) {
            String asked = w[0] + " " + w[1];
            check.due("loudFor " + asked, x.loudFor(w[0], w[1]), Check.BEYOND);
            check.due("layFor " + asked, x.layFor(w[0], w[1]), Check.BEYOND);
            check.due("kindFor " + asked, x.kindFor(w[0], w[1]), Check.BEYOND);
            check.due("heavyFor " + asked, x.heavyFor(w[0], w[1]), Check.BEYOND);
        }
        int[] calls = {-1, 61, Integer.MAX_VALUE};
        for (int n : calls) {
            check.due("startFor " + n, x.startFor(n), Check.BEYOND);
        }
        check.due("holdFast -1", x.holdFast(-1), Check.BEYOND);
        check.due("holdFast 21", x.holdFast(21), Check.BEYOND);
        check.due("findings", x.status(0), 4 * wrong.length + calls.length + 2);
        check.due("loudFor 60", x.loudFor(0, 60), 0);
        check.due("layFor 60", x.layFor(0, 60) < 16 ? 1 : 0, 1);
        check.due("kindFor 60", x.kindFor(0, 60) >= 0 ? 1 : 0, 1);
        check.due("heavyFor 60", x.heavyFor(0, 60), Check.NONE);
        check.due("startFor 60", x.startFor(60), 0);
        check.due("holdFast 20", x.holdFast(20), 1);
    }
}
