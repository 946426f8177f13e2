/** Promises 22 and 23: cells and kinds by told ways. */
public final class WaysTest {
    private static final Check check = new Check();

    public static void main(String[] args) {
        fits();
        fitsSmall();
        kinds();
        taken();
        byTrying();
        outside();
        check.finish();
    }

    private static void fits() {
        IronCall x = Check.from("cart 8 pace 0; loud 8; iron at 3 heavy 99");
        Check.fill(x, 0, 16, 0, 8);
        check.due("8 at once: 4 off", x.fits(0, 0), 1 << 4 | 1 << 12);
        Check.fill(x, 0, 16, -1, 8, 16, -1, 32);
        check.due("8 a call", x.fits(0, 0), 1 << 4 | 1 << 12);
        Check.fill(x, 0, 16, -1, -1, -1, 24);
        check.due("24 in three", x.fits(0, 0), 1 << 4 | 1 << 12);
        Check.fill(x, 0, 16, 0, 8, 17);
        check.due("17 in two", x.fits(0, 0), 0);
        Check.fill(x, 0, 16, 1, 8);
        check.due("1 now", x.fits(0, 0), 0);
        Check.fill(x, 0, 16, -1, -1);
        check.due("any", x.fits(0, 0), 65535);
        Check.fill(x, 0, 16, 0, 0);
        check.due("out of its reach", x.fits(0, 0), 1);
        Check.fill(x, 0, 16, -2);
        check.due("-2 is none", x.fits(0, 0), 0);
        check.due("it stays", x.of(0, 1), 3);
        check.due("pulled stays", x.of(0, 3), 0);
        check.due("no call", x.now(0), 0);
    }

    private static void fitsSmall() {
        IronCall x = Check.from("thing at 3 pulled 5; bed pulled 255");
        x.sheet(1, 8, 0);
        check.due("nothing told", x.fits(1, 0), 65535);
        check.due("nothing told of kinds", x.kinds(1, 0), 127);
        Check.fill(x, 1, 8, 255);
        check.due("255 of 8 bits: any", x.fits(1, 1), 65535);
        Check.fill(x, 1, 16, 255);
        check.due("255 of 16 bits", x.fits(1, 1), 65535);
        check.due("5 is not 255", x.fits(1, 0), 0);
        Check.fill(x, 1, 32, 65535 + 256);
        check.due("65791", x.fits(1, 1), 0);
        Check.fill(x, 1, 32, 5);
        check.due("5 of 32 bits", x.fits(1, 0), 65535);
    }

    private static void kinds() {
        IronCall x = Check.from("cart 8 pace 0; loud 14; thing at 4 heavy 5");
        // THING and IRON go one cell a call, SWORD 2, NEEDLE (light) 3; GOLD, CROWN feel 3 and rest.
        Check.fill(x, 2, 8, 4, 5);
        check.due("one cell", x.kinds(2, 0), 1 | 2 | 16);
        Check.fill(x, 2, 8, 4, 6);
        check.due("two cells", x.kinds(2, 0), 8);
        Check.fill(x, 2, 8, 4, 7);
        check.due("three", x.kinds(2, 0), 32);
        Check.fill(x, 2, 8, 4, 4);
        check.due("none", x.kinds(2, 0), 4 | 64);
        Check.fill(x, 2, 8, -1, -1, 8);
        check.due("there in two", x.kinds(2, 0), 8 | 32);
        Check.fill(x, 2, 8, 5);
        check.due("elsewhere now", x.kinds(2, 0), 0);
        Check.fill(x, 2, 8, -1, -1, -1);
        check.due("any", x.kinds(2, 0), 127);
        check.due("it stays a THING", x.of(0, 0), 0);
        check.due("and where it is", x.of(0, 1), 4);
    }

    private static void taken() {
        IronCall x = Check.from("cart 8 pace 0; thing at 4 pulled 7");
        x.change(0, 5, 1);
        Check.fill(x, 0, 8, 7, 7, 7, 7);
        check.due("taken: pulled stays", x.fits(0, 0), 65535);
        Check.fill(x, 0, 8, 4, 4, 4, 4);
        check.due("taken: it stays", x.kinds(0, 0), 127);
    }

    /** A row told by one that went this way has the cell, or kind, of that one. */
    private static void byTrying() {
        String street = "cart 5 back pace 2; loud 9; iron at 9 heavy 18; needle at 12 heavy 5; crown at 4;"
                + " gold at 4 heavy 3; bed at 1 heavy 6";
        for (int thing = 0; thing < 5; thing++) {
            IronCall x = Check.from(street);
            int[][] pulled = new int[16][];
            int[][] cells = new int[7][];
            for (int cell = 0; cell < 16; cell++) {
                pulled[cell] = rowOf(street, thing, 1, cell, 3);
            }
            for (int kind = 0; kind < 7; kind++) {
                cells[kind] = rowOf(street, thing, 0, kind, 1);
            }
            for (int[] row : pulled) {
                Check.fill(x, 3, 32, row);
                check.due("fits " + thing, x.fits(3, thing), alike(pulled, row));
            }
            for (int[] row : cells) {
                Check.fill(x, 3, 32, row);
                check.due("kinds " + thing, x.kinds(3, thing), alike(cells, row));
            }
        }
    }

    private static int[] rowOf(String street, int thing, int changed, int v, int watched) {
        IronCall x = Check.from(street);
        x.change(thing, changed, v);
        int[] row = new int[12];
        for (int i = 0; i < row.length; i++) {
            row[i] = x.of(thing, watched);
            x.go(1);
        }
        return row;
    }

    private static int alike(int[][] rows, int[] row) {
        int set = 0;
        for (int i = 0; i < rows.length; i++) {
            if (java.util.Arrays.equals(rows[i], row)) {
                set |= 1 << i;
            }
        }
        return set;
    }

    private static void outside() {
        IronCall x = Check.from("thing at 3");
        x.sheet(0, 8, 2);
        int[] wrong = {-1, 4, Integer.MIN_VALUE, Integer.MAX_VALUE};
        for (int s : wrong) {
            check.due("fits " + s, x.fits(s, 0), Check.BEYOND);
            check.due("fits " + s + " 9", x.fits(s, 9), Check.BEYOND);
            check.due("kinds " + s, x.kinds(s, 0), Check.BEYOND);
        }
        check.due("missing", x.fits(1, 0), Check.MISSING);
        check.due("missing, ahead of the thing", x.fits(1, 5), Check.MISSING);
        check.due("missing", x.kinds(1, 0), Check.MISSING);
        check.due("missing, ahead of the thing", x.kinds(1, -1), Check.MISSING);
        check.due("no thing", x.fits(0, 1), Check.BEYOND);
        check.due("thing -1", x.fits(0, -1), Check.BEYOND);
        check.due("no thing", x.kinds(0, 1), Check.BEYOND);
        check.due("thing -1", x.kinds(0, -1), Check.BEYOND);
        check.due("beyond told", x.status(0), 3 * wrong.length + 4);
        check.due("missing told", x.status(5), 4);
    }
}
