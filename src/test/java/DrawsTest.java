/** Promises 24 to 26: calls by draws. */
public final class DrawsTest {
    private static final Check check = new Check();

    public static void main(String[] args) {
        drawn();
        drawnOneByOne();
        callsOutside();
        odds();
        oddsOfAll();
        oddsOutside();
        seed();
        check.finish();
    }

    private static void drawn() {
        // z from 1: 1103527590, 2524885223; these >>> 8 are 4310654, 9862832.
        IronCall x = new IronCall();
        x.set(2, 0);
        check.due("calls", x.calls(1), 0);
        check.due("cell 4310654 % 16", x.cart(0), 14);
        check.due("loud 9862832 % 21", x.cart(3), 14);
        check.due("z", x.count(6), (int) 2524885223L);
        check.due("call", x.now(0), 1);
        check.due("ten more", x.calls(10), 0);
        check.due("call", x.now(0), 11);
        IronCall y = Check.from("bed at 14 held");
        y.set(2, 0);
        y.calls(1);
        check.due("pulled with the drawn LOUD: 14 * 2 + 3 - 4 - 2", y.of(0, 3), 25);
    }

    private static void drawnOneByOne() {
        String street = "cart 5 back pace 2; iron at 9 heavy 18; needle at 12 heavy 5; crown at 4; gold at 4 heavy 3;"
                + " thing at 15; sword heavy 30; bed at 1 heavy 6";
        int[] seeds = {1, 0, -1, 77, Integer.MIN_VALUE, 123456789};
        for (int seed : seeds) {
            IronCall x = Check.from(street);
            IronCall y = Check.from(street);
            x.seed(seed);
            int z = seed;
            for (int n = 1; n <= 20; n += 6) {
                int due = 0;
                for (int i = 0; i < n; i++) {
                    z = z * 1103515245 + 12345;
                    y.set(0, (z >>> 8) % 16);
                    z = z * 1103515245 + 12345;
                    y.set(3, (z >>> 8) % 21);
                    due = y.go(1);
                }
                check.due("calls " + n, x.calls(n), due);
                check.due("z", x.count(6), z);
                for (int thing = 0; thing < 7; thing++) {
                    for (int what = 0; what < 12; what++) {
                        check.due("of " + thing + " " + what, x.of(thing, what), y.of(thing, what));
                    }
                }
                for (int what = 0; what < 4; what++) {
                    check.due("cart " + what, x.cart(what), y.cart(what));
                }
            }
        }
    }

    private static void callsOutside() {
        IronCall x = new IronCall();
        int[] wrong = {0, -1, 21, Integer.MIN_VALUE, Integer.MAX_VALUE};
        for (int n : wrong) {
            check.due("calls " + n, x.calls(n), Check.BEYOND);
        }
        check.due("z", x.count(6), 1);
        check.due("call", x.now(0), 0);
        check.due("cart", x.cart(0), 0);
        check.due("20", x.calls(20), 0);
    }

    private static void odds() {
        // A THING at 3, LOUD 8: at 5 to 15 are 8, 7, .. felt; 5 or more of 0 to 6.
        IronCall x = Check.from("thing at 3; thing at 3 held; needle at 3");
        due(x, 0, 5, 1, 7, 16);
        due(x, 0, 5, 2, 49, 256);
        due(x, 0, 7, 1, 3, 16);
        due(x, 0, 8, 1, 1, 16);
        due(x, 0, 8, 15, 1, 1L << 60);
        due(x, 0, 9, 1, 0, 1);
        due(x, 0, 9, 15, 0, 1);
        due(x, 0, 9, 0, 1, 1);
        due(x, 0, 5, 0, 1, 1);
        due(x, 0, 0, 15, 1, 1);
        due(x, 0, 4, 1, 1, 2);
        due(x, 0, 4, 15, 1, 1 << 15);
        due(x, 0, 1, 1, 11, 16);
        due(x, 0, 1, 15, 4177248169415651L, 1L << 60);
        due(x, 0, 6, 3, 125, 4096);
        due(x, 0, 99, 1, 0, 1);
        due(x, 1, 5, 2, 49, 256);
        // A NEEDLE hears all LOUD from the odd cells, 8 of them, and 7 from none of the others.
        due(x, 2, 8, 3, 1, 8);
        x.set(0, 12);
        due(x, 0, 5, 2, 49, 256);
        x.change(0, 5, 1);
        due(x, 0, 5, 2, 49, 256);
        x.set(3, 20);
        due(x, 0, 9, 1, 15, 16);
        check.due("no draw", x.count(6), 1);
        check.due("the cart stays", x.cart(0), 12);
    }

    private static void due(IronCall x, int thing, int v, int n, long above, long below) {
        String asked = "odds " + thing + " " + v + " " + n;
        check.due(asked + " above", x.odds(thing, v, n, 0), above);
        check.due(asked + " below", x.odds(thing, v, n, 1), below);
    }

    /** For every thing and number felt: the cells counted by going there. */
    private static void oddsOfAll() {
        for (int thing = 0; thing < 8; thing++) {
            IronCall x = Check.from("loud 11; thing at 3; iron at 15; gold at 8; sword at 1; bed at 10; needle at 6;"
                    + " crown at 8; crown at 8");
            for (int v = 0; v < 24; v++) {
                int cells = 0;
                for (int cell = 0; cell < 16; cell++) {
                    x.set(0, cell);
                    cells += x.of(thing, 7) >= v ? 1 : 0;
                }
                long above = cells * cells;
                long below = 256;
                while (below > 1 && above % 2 == 0) {
                    above /= 2;
                    below /= 2;
                }
                due(x, thing, v, 2, above, below);
            }
        }
    }

    private static void oddsOutside() {
        IronCall x = Check.from("thing at 3");
        int[][] wrong = {{-1, 0, 0, 0}, {1, 0, 0, 0}, {0, -1, 0, 0}, {0, 100, 0, 0}, {0, 0, -1, 0},
            {0, 0, 16, 0}, {0, 0, 0, -1}, {0, 0, 0, 2}, {0, 0, Integer.MAX_VALUE, 1}};
        for (int[] w : wrong) {
            check.due("odds " + w[0] + " " + w[1] + " " + w[2] + " " + w[3],
                    x.odds(w[0], w[1], w[2], w[3]), Check.BEYOND);
        }
        check.due("findings", x.status(0), wrong.length);
    }

    private static void seed() {
        IronCall x = new IronCall();
        int[] seeds = {0, -5, Check.BEYOND, Check.SIZE, Integer.MIN_VALUE, Integer.MAX_VALUE, 1};
        int was = 1;
        for (int v : seeds) {
            check.due("seed " + v, x.seed(v), was);
            check.due("z", x.count(6), v);
            was = v;
        }
        check.due("no finding", x.status(-1), 0);
    }
}
