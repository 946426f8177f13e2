/** Promises 8 and 9, and what the document's second text tells of a call. */
public final class CallsTest {
    private static final Check check = new Check();

    public static void main(String[] args) {
        cartGoes();
        ironComes();
        heldStays();
        takenRests();
        movesNoFarther();
        limits();
        numbersInTurn();
        crownLiking();
        goAnswers();
        goOutside();
        goToTheEnd();
        now();
        check.finish();
    }

    /** CELL, WAY and PACE before; CELL and WAY behind one call. */
    private static void cartGoes() {
        int[][] due = {{0, 1, 1, 1, 1}, {0, 0, 1, 1, 1}, {5, 0, 1, 4, 0}, {1, 0, 1, 0, 1},
            {14, 1, 1, 15, 0}, {15, 1, 1, 14, 0}, {15, 0, 1, 14, 0}, {13, 1, 3, 14, 0},
            {2, 0, 3, 1, 1}, {3, 0, 3, 0, 1}, {12, 1, 3, 15, 0}, {0, 0, 0, 0, 1},
            {15, 1, 0, 15, 0}, {7, 1, 0, 7, 1}, {7, 0, 0, 7, 0}, {15, 1, 3, 12, 0},
            {0, 0, 2, 2, 1}, {14, 1, 2, 14, 0}};
        for (int[] d : due) {
            IronCall x = new IronCall();
            x.set(0, d[0]);
            x.set(1, d[1]);
            x.set(2, d[2]);
            check.due("where", x.where(1), d[3]);
            x.go(1);
            String call = "from " + d[0] + " way " + d[1] + " pace " + d[2];
            check.due(call + ": cell", x.cart(0), d[3]);
            check.due(call + ": way", x.cart(1), d[4]);
            check.due(call + ": pace", x.cart(2), d[2]);
        }
    }

    private static void ironComes() {
        IronCall x = Check.from("iron at 5");
        // The cart stands 4, then 3, then 1 off from it.
        int[][] due = {{8, 5, 0, 0}, {8, 4, 1, 0}, {12, 3, 2, 1}, {12, 3, 2, 1}};
        for (int n = 0; n < 4; n++) {
            check.due("go", x.go(1), due[n][3]);
            check.due("pulled", x.of(0, 3), due[n][0]);
            check.due("cell", x.of(0, 1), due[n][1]);
            check.due("moved", x.of(0, 6), due[n][2]);
            check.due("taken", x.of(0, 5), due[n][3]);
            check.due("call", x.now(0), n + 1);
        }
    }

    private static void heldStays() {
        IronCall x = Check.from("cart 4 pace 0; thing at 4 held; thing at 5 pulled 500 held");
        check.due("go", x.go(3), 0);
        check.due("pulled, resting", x.of(0, 3), 3 * 7);
        check.due("pulled far above heavy", x.of(1, 3), 500 + 3 * 6);
        check.due("not moved", x.of(1, 1), 5);
        check.due("moved", x.of(1, 6), 0);
        x.change(0, 4, 0);
        check.due("let go", x.go(1), 1);
        check.due("pulled once more, less heavy, no rest", x.of(0, 3), 21 + 8 - 10);
    }

    private static void takenRests() {
        IronCall x = Check.from("cart 4 pace 0; gold at 4 heavy 99; gold at 5 heavy 99; gold at 9 pulled 1");
        check.due("go", x.go(1), 1);
        check.due("taken: no rest", x.of(0, 3), 2);
        check.due("rested to 0", x.of(1, 3), 0);
        check.due("not below 0", x.of(2, 3), 0);
        check.due("go again", x.go(5), 1);
        check.due("taken: not pulled", x.of(0, 3), 2);
        x.change(1, 5, 1);
        check.due("taken by hand", x.go(1), 3);
    }

    private static void movesNoFarther() {
        IronCall x = Check.from("cart 7 pace 0; sword at 8; needle at 5 heavy 5; needle at 11 heavy 5;"
                + " bed at 7; sword at 2 pulled 99");
        check.due("go", x.go(1), 1);
        int[] cells = {7, 7, 8, 7, 4};
        int[] moved = {1, 2, 3, 0, 2};
        int[] pulled = {7, 3, 3, 3, 95};
        for (int i = 0; i < 5; i++) {
            check.due("cell " + i, x.of(i, 1), cells[i]);
            check.due("moved " + i, x.of(i, 6), moved[i]);
            check.due("pulled " + i, x.of(i, 3), pulled[i]);
        }
    }

    private static void limits() {
        IronCall x = Check.from("cart 4 pace 0; iron at 4 pulled 998 held; bed at 4 pulled 999 held;"
                + " sword at 9 heavy 30 pulled 99");
        x.change(2, 6, 9998);
        x.go(1);
        check.due("pulled 999 at most", x.of(0, 3), 999);
        check.due("then rests", x.of(1, 3), 997);
        check.due("moved 9999 at most", x.of(2, 6), 9999);
        check.due("moved all the same", x.of(2, 1), 7);
    }

    /** A crown feels those that came to its cell by a lower number, and not yet those behind. */
    private static void numbersInTurn() {
        IronCall x = Check.from("cart 5 pace 0; bed at 6 heavy 1; crown at 5 heavy 99; bed at 4 heavy 1");
        x.go(1);
        check.due("bed ahead", x.of(0, 1), 5);
        check.due("bed behind", x.of(2, 1), 5);
        // A crown at the cart's cell feels 2, and 1 for the bed ahead of it; it rests 4.
        check.due("crown", x.of(1, 3), 0);
        x.change(1, 3, 50);
        x.change(1, 4, 1);
        x.go(1);
        check.due("crown with both", x.of(1, 3), 50 + 4 - 4);
        IronCall y = Check.from("cart 5 pace 0; bed at 6 heavy 1; crown at 5 heavy 99 pulled 50 held;"
                + " bed at 4 heavy 1");
        y.go(1);
        check.due("crown with one", y.of(1, 3), 50 + 3 - 4);
        IronCall z = Check.from("cart 5 pace 0; thing at 5; crown at 5 heavy 99 pulled 50 held");
        z.go(1);
        check.due("not yet taken when it feels", z.of(1, 3), 50 + 3 - 4);
        z.go(1);
        check.due("taken since", z.of(1, 3), 49 + 2 - 4);
    }

    private static void crownLiking() {
        // It feels 2 first: whether it is liked is asked behind that, and behind its move.
        IronCall x = Check.from("cart 5 pace 0; crown at 5 pulled 3; crown at 5;"
                + " crown at 5 heavy 12 pulled 10");
        check.due("go", x.go(1), 1);
        check.due("pulled 3 + 2 + 2", x.of(0, 3), 7);
        check.due("pulled 0 + 2 + 2 - 4", x.of(1, 3), 0);
        check.due("heavy 12: pulled 10 + 2 + 2 - 12 - 4", x.of(2, 3), 0);
    }

    private static void goAnswers() {
        IronCall x = Check.from("cart 5 pace 0; thing at 5; bed at 5; gold at 5; needle at 5");
        x.change(1, 5, 1);
        check.due("those taken before, too", x.go(1), 1 | 2 | 4);
        check.due("all of them again", x.go(60), 1 | 2 | 4);
        check.due("calls", x.count(0), 61);
    }

    private static void goOutside() {
        IronCall x = new IronCall();
        int[] wrong = {0, -1, 61, Integer.MIN_VALUE, Integer.MAX_VALUE};
        for (int n : wrong) {
            check.due("go " + n, x.go(n), Check.BEYOND);
        }
        check.due("no call", x.now(0), 0);
        check.due("cart at rest", x.cart(0), 0);
    }

    /** This is behind the 512th call, where nothing is promised: the bound stands there all the same. */
    private static void goToTheEnd() {
        IronCall x = new IronCall();
        for (int i = 0; i < 1666; i++) {
            x.go(60);
        }
        check.due("call", x.now(0), 99960);
        check.due("too many", x.go(40), Check.STATE);
        check.due("none was made", x.now(0), 99960);
        check.due("outside comes first", x.go(61), Check.BEYOND);
        x.image();
        check.due("20 drawn", x.calls(20), 0);
        check.due("20 drawn: too many", x.calls(20), Check.STATE);
        check.due("19 drawn: just enough", x.calls(19), 0);
        check.due("last call, drawn", x.now(0), 99999);
        x.undo();
        check.due("just enough", x.go(39), 0);
        check.due("last call", x.now(0), 99999);
        check.due("drawn", x.calls(1), Check.STATE);
        check.due("z", x.count(6), 1);
        check.due("drawn too often", x.calls(21), Check.BEYOND);
    }

    private static void now() {
        IronCall x = Check.from("loud 9; cart 3; iron at 3 heavy 40 pulled 7; sword at 3 held;"
                + " sword at 3; thing at 9 heavy 30 pulled 5; bed at 15 heavy 25 held");
        x.change(0, 5, 1);
        x.change(4, 5, 1);
        x.change(1, 6, 30);
        x.change(4, 6, 4);
        int[] due = {0, 1 | 16, 12, 34, 65, 1, 1 << 3 | 1 << 9, 2 | 16};
        for (int what = 0; what < 8; what++) {
            check.due("now " + what, x.now(what), due[what]);
        }
        x.set(0, 9);
        check.due("feels most elsewhere", x.now(5), 3);
        x.set(3, 0);
        x.set(0, 0);
        check.due("feels most, as SWORDS hear silence", x.now(5), 1);
        x.change(1, 5, 1);
        check.due("feels most, the next", x.now(5), 2);
        x.change(2, 5, 1);
        check.due("feels nothing: still the one", x.now(5), 3);
        x.change(3, 5, 1);
        check.due("none is left", x.now(5), -1);
        check.due("no cells", x.now(6), 0);
        check.due("all taken", x.now(1), 31);
        check.due("cells", Check.from("bed; bed at 15").now(6), 1 | 1 << 15);
        int[] wrong = {-1, 8, Integer.MIN_VALUE, Integer.MAX_VALUE};
        for (int what : wrong) {
            check.due("now " + what, x.now(what), Check.BEYOND);
        }
    }
}
