/** Promises 10 to 15: what will be, with nothing changed by the asking. */
public final class AheadTest {
    private static final Check check = new Check();
    private static final String STREET = "cart 2 pace 2; loud 9; iron at 9 heavy 14; needle at 12 heavy 5;"
            + " crown at 4; sword at 14 heavy 30; gold at 4 held; bed at 0 pulled 20; thing at 15";

    public static void main(String[] args) {
        byGoing();
        ahead();
        where();
        taken();
        when();
        meet();
        strained();
        unchanged();
        check.finish();
    }

    /** What is told ahead is what one finds when one goes there. */
    private static void byGoing() {
        IronCall x = Check.from(STREET);
        IronCall y = Check.from(STREET);
        int[] whats = {1, 3, 5, 6};
        for (int n = 0; n <= 30; n++) {
            for (int what : whats) {
                check.due("ahead " + what + " " + n, x.ahead(n % 7, what, n), y.of(n % 7, what));
            }
            check.due("where " + n, x.where(n), y.cart(0));
            y.go(1);
        }
    }

    private static void ahead() {
        IronCall x = Check.from("iron at 5");
        check.due("cell now", x.ahead(0, 1, 0), 5);
        check.due("cell behind 2", x.ahead(0, 1, 2), 4);
        check.due("pulled behind 2", x.ahead(0, 3, 2), 8);
        check.due("taken behind 2", x.ahead(0, 5, 2), 0);
        check.due("taken behind 3", x.ahead(0, 5, 3), 1);
        check.due("moved behind 100", x.ahead(0, 6, 100), 2);
        int[][] wrong = {{-1, 1, 0}, {1, 1, 0}, {0, 0, 0}, {0, 2, 0}, {0, 4, 0}, {0, 7, 0}, {0, 11, 0},
            {0, -1, 0}, {0, 1, -1}, {0, 1, 101}, {0, 1, Integer.MIN_VALUE}, {0, 1, Integer.MAX_VALUE}};
        for (int[] w : wrong) {
            check.due("ahead " + w[0] + " " + w[1] + " " + w[2], x.ahead(w[0], w[1], w[2]), Check.BEYOND);
        }
        check.due("findings", x.status(0), wrong.length);
    }

    private static void where() {
        IronCall x = new IronCall();
        int[] due = {0, 1, 2, 3, 4, 5, 6, 7, 8, 9, 10, 11, 12, 13, 14, 15, 14, 13};
        for (int n = 0; n < due.length; n++) {
            check.due("where " + n, x.where(n), due[n]);
        }
        check.due("where 100", x.where(100), 10);
        check.due("where -1", x.where(-1), Check.BEYOND);
        check.due("where 101", x.where(101), Check.BEYOND);
    }

    private static void taken() {
        IronCall x = Check.from("iron at 5; thing at 15; bed at 3; thing at 15 held; thing at 0 heavy 99");
        check.due("iron", x.taken(0), 3);
        // It feels 1 at call 8 and moves one CELL at call 12; the cart is there at call 14.
        check.due("thing", x.taken(1), 14);
        check.due("bed", x.taken(2), Check.NONE);
        check.due("held", x.taken(3), Check.NONE);
        x.change(2, 5, 1);
        check.due("taken now", x.taken(2), 0);
        check.due("no thing", x.taken(5), Check.BEYOND);
        check.due("thing -1", x.taken(-1), Check.BEYOND);
        IronCall late = Check.from("thing at 1 heavy 99; cart 2 pace 1; loud 0");
        check.due("the cart comes back to it", late.taken(0), 13 + 14);
        IronCall near = Check.from("cart 2 pace 0; loud 12; iron at 4 heavy 20 pulled 1; iron at 4 heavy 20");
        check.due("pulled 1 more", near.taken(0), 2);
        check.due("twice", near.taken(1), 2);
    }

    private static void when() {
        IronCall x = Check.from("iron at 5; bed at 3 held");
        check.due("now", x.when(0, 5), 0);
        check.due("next", x.when(0, 4), 2);
        check.due("when taken", x.when(0, 3), 3);
        check.due("never", x.when(0, 6), Check.NONE);
        check.due("held", x.when(1, 3), 0);
        x.change(1, 5, 1);
        check.due("taken and there", x.when(1, 3), 0);
        int[][] wrong = {{-1, 0}, {2, 0}, {0, -1}, {0, 16}, {0, Integer.MAX_VALUE}};
        for (int[] w : wrong) {
            check.due("when " + w[0] + " " + w[1], x.when(w[0], w[1]), Check.BEYOND);
        }
        check.due("status", x.status(3), 1);
    }

    private static void meet() {
        IronCall x = Check.from("iron at 5; bed at 3 held; bed at 5 held; bed at 9 held");
        check.due("now", x.meet(0, 2), 0);
        check.due("where one is taken", x.meet(0, 1), 3);
        check.due("the other way", x.meet(1, 0), 3);
        check.due("never", x.meet(1, 3), Check.NONE);
        x.change(1, 5, 1);
        check.due("taken or not", x.meet(1, 0), 3);
        meetLate("loud 1; needle at 4 heavy 34 pulled 1; bed at 7 held", 200);
        meetLate("loud 0; sword at 6 heavy 93; bed at 9 held", 200);
        meetLate("loud 1; needle at 3 heavy 34; bed at 6 held", 201);
        meetLate("loud 0; sword at 6 heavy 94 pulled 2; bed at 9 held", 201);
        int[][] wrong = {{0, 0}, {3, 3}, {-1, 0}, {0, -1}, {4, 0}, {0, 4}, {4, 4}};
        for (int[] w : wrong) {
            check.due("meet " + w[0] + " " + w[1], x.meet(w[0], w[1]), Check.BEYOND);
        }
    }

    /** Told up to 200 calls ahead, and gone to here. */
    private static void meetLate(String street, int n) {
        IronCall x = Check.from(street);
        check.due("meet " + street, x.meet(0, 1), n <= 200 ? n : Check.NONE);
        check.due("when " + street, x.when(0, x.of(1, 1)), n <= 200 ? n : Check.NONE);
        for (int i = 0; i < n; i++) {
            check.due(i + " " + street, x.of(0, 1) == x.of(1, 1) ? 1 : 0, 0);
            x.go(1);
        }
        check.due(n + " " + street, x.of(0, 1), x.of(1, 1));
    }

    private static void strained() {
        IronCall x = Check.from("cart 4 pace 0; iron at 5 held; thing at 4 held; bed at 15 pulled 3");
        check.due("0 now", x.strained(0, 0), 0);
        check.due("14 a call", x.strained(0, 14), 1);
        check.due("15", x.strained(0, 15), 2);
        check.due("999", x.strained(0, 999), 72);
        check.due("7 a call, resting", x.strained(1, 8), 2);
        check.due("three now", x.strained(2, 3), 0);
        check.due("never four", x.strained(2, 4), Check.NONE);
        int[][] wrong = {{-1, 0}, {3, 0}, {0, -1}, {0, 1000}};
        for (int[] w : wrong) {
            check.due("strained " + w[0] + " " + w[1], x.strained(w[0], w[1]), Check.BEYOND);
        }
        IronCall slow = Check.from("cart 4 pace 0; loud 6; thing at 4 held; thing at 5 held; thing at 4 held");
        // PULLED would be 1000 behind 200 calls, but is 999 at most before it rests.
        check.due("5 a call", slow.strained(0, 995), 199);
        check.due("5 a call, up to the bound", slow.strained(0, 998), 200);
        check.due("5 a call, beyond it", slow.strained(0, 999), Check.NONE);
        check.due("4 a call: too late", slow.strained(1, 999), Check.NONE);
        check.due("4 a call: 800", slow.strained(1, 800), 200);
        check.due("4 a call: 801", slow.strained(1, 801), Check.NONE);
    }

    private static void unchanged() {
        IronCall x = Check.from(STREET);
        IronCall y = Check.from(STREET);
        x.image();
        x.ahead(0, 1, 100);
        x.where(100);
        x.taken(1);
        x.when(2, 7);
        x.meet(0, 3);
        x.strained(3, 500);
        for (int thing = 0; thing < 7; thing++) {
            for (int what = 0; what < 12; what++) {
                check.due("unchanged " + thing + " " + what, x.of(thing, what), y.of(thing, what));
            }
        }
        for (int what = 0; what < 8; what++) {
            check.due("unchanged count " + what, x.count(what), y.count(what));
        }
        for (int what = 0; what < 4; what++) {
            check.due("unchanged cart " + what, x.cart(what), y.cart(what));
        }
    }
}
