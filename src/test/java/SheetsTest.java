/** Promises 30 to 36: spots and sheets. */
public final class SheetsTest {
    private static final Check check = new Check();
    private static final int LEAST = Integer.MIN_VALUE;
    private static final int GREATEST = Integer.MAX_VALUE;

    public static void main(String[] args) {
        hold();
        as();
        sheet();
        sheetOutside();
        write();
        copy();
        copyOutside();
        load();
        judge();
        check.finish();
    }

    private static void hold() {
        IronCall x = Check.from("bed; iron");
        int[] spots = {-1, 10, LEAST, GREATEST};
        for (int spot : spots) {
            check.due("hold " + spot, x.hold(spot, 0), Check.BEYOND);
        }
        int[] things = {-2, 2, 8, LEAST, GREATEST};
        for (int thing : things) {
            check.due("hold 0 " + thing, x.hold(0, thing), Check.BEYOND);
        }
        check.due("none holds", x.count(7), 0);
        for (int spot = 0; spot < 10; spot++) {
            check.due("hold " + spot, x.hold(spot, spot % 2), 1);
            check.due("spots", x.count(7), spot + 1);
        }
        check.due("hold another", x.hold(4, 1), 1);
        check.due("as", x.as(4, 0), 1);
        check.due("nothing", x.hold(4, -1), 1);
        check.due("nothing again", x.hold(4, -1), 1);
        check.due("spots", x.count(7), 9);
        check.due("no such thing", x.hold(5, 2), Check.BEYOND);
        check.due("it holds what it held", x.as(5, 0), 1);
    }

    private static void as() {
        // By kind: the kinds that it is one of.
        int[] due = {1, 1 | 2, 1 | 4, 1 | 2 | 8, 1 | 2 | 8 | 16, 1 | 32, 1 | 4 | 64};
        IronCall x = new IronCall();
        for (int kind = 0; kind < 7; kind++) {
            x.thing(kind, 3);
            x.hold(9 - kind, kind);
        }
        for (int kind = 0; kind < 7; kind++) {
            for (int asked = 0; asked < 7; asked++) {
                int want = (due[kind] >> asked & 1) == 1 ? kind : Check.KIND;
                check.due(kind + " as " + asked, x.as(9 - kind, asked), want);
            }
            check.due("kind -1", x.as(9 - kind, -1), Check.BEYOND);
            check.due("kind 7", x.as(9 - kind, 7), Check.BEYOND);
        }
        check.due("KIND told", x.status(2), 49 - 17);
        check.due("nothing", x.as(0, 0), Check.MISSING);
        check.due("nothing, as no kind", x.as(0, 7), Check.BEYOND);
        check.due("spot -1", x.as(-1, 0), Check.BEYOND);
        check.due("spot 10", x.as(10, 0), Check.BEYOND);
        check.due("least", x.as(LEAST, 0), Check.BEYOND);
        x.change(4, 0, 0);
        check.due("its kind as it is now", x.as(5, 4), Check.KIND);
        x.change(4, 5, 1);
        check.due("taken: still held there", x.as(5, 0), 4);
        x.hold(9, -1);
        check.due("it was let go", x.as(9, 0), Check.MISSING);
    }

    private static void sheet() {
        IronCall x = new IronCall();
        check.due("40", x.sheet(3, 32, 40), 40);
        check.due("last", x.write(3, 39, 1), 1);
        check.due("beyond", x.write(3, 40, 1), Check.BEYOND);
        check.due("0", x.sheet(0, 8, 0), 0);
        check.due("it has none", x.write(0, 0, 1), Check.BEYOND);
        check.due("it isn't missing", x.judge(0), 0);
        check.due("16", x.sheet(0, 16, 7), 7);
        x.thing(0, 0);
        Check.fill(x, 1, 8, 0, 5);
        check.due("0 as told, 5 for no thing", x.judge(1), 2);
        check.due("made anew", x.sheet(1, 8, 1), 1);
        check.due("missing: 0", x.sheet(1, 0, 9), 0);
        check.due("it is", x.judge(1), Check.MISSING);
        check.due("and again", x.sheet(1, 0, 0), 0);
        Check.fill(x, 2, 8, 9, 9);
        x.sheet(2, 8, 2);
        check.due("all 0 again", x.judge(2), 2);
        x.thing(0, 0);
        check.due("all 0 again, both", x.judge(2), 0);
    }

    private static void sheetOutside() {
        IronCall x = new IronCall();
        Check.fill(x, 0, 8, 7);
        x.thing(0, 7);
        int[] sheets = {-1, 4, LEAST, GREATEST};
        for (int s : sheets) {
            check.due("sheet " + s, x.sheet(s, 8, 1), Check.BEYOND);
            check.due("sheet " + s + ", below 0", x.sheet(s, 8, -1), Check.BEYOND);
        }
        int[] bits = {-8, -1, 1, 7, 9, 24, 64, LEAST, GREATEST};
        for (int b : bits) {
            check.due("bits " + b, x.sheet(0, b, 1), Check.BEYOND);
            check.due("bits " + b + ", below 0", x.sheet(0, b, -1), Check.BEYOND);
        }
        int[] right = {0, 8, 16, 32};
        for (int b : right) {
            check.due("below 0", x.sheet(0, b, -1), Check.SIZE);
            check.due("far below 0", x.sheet(0, b, LEAST), Check.SIZE);
            check.due("41", x.sheet(0, b, 41), Check.BEYOND);
            check.due("far above", x.sheet(0, b, GREATEST), Check.BEYOND);
        }
        check.due("SIZE told", x.status(6), 8);
        check.due("it is as it was", x.judge(0), 0);
    }

    /** What a number is told as shows in load(), judge() and fits(). */
    private static void write() {
        IronCall x = Check.from("iron at 3");
        x.sheet(0, 8, 2);
        x.sheet(1, 16, 2);
        x.sheet(2, 32, 2);
        int[][] due = {{3, 1, 1, 1}, {256 + 3, 1, 0, 0}, {65536 + 3, 1, 1, 0}, {-253, 1, 0, 0}, {-65533, 1, 1, 0},
            {131, 0, 0, 0}, {-3, 0, 0, 0}};
        for (int[] d : due) {
            for (int s = 0; s < 3; s++) {
                check.due("write " + d[0], x.write(s, 0, d[0]), 1);
                x.write(s, 1, -1);
                check.due(d[0] + " on sheet " + s, x.kinds(s, 0), d[1 + s] == 1 ? 127 : 0);
            }
        }
        int[][] any = {{255, 1, 0, 0}, {65535, 1, 1, 0}, {-1, 1, 1, 1}, {511, 1, 0, 0}};
        for (int[] a : any) {
            for (int s = 0; s < 3; s++) {
                x.write(s, 0, a[0]);
                check.due(a[0] + " any on sheet " + s, x.fits(s, 0), a[1 + s] == 1 ? 65535 : 0);
            }
        }
        int[] wrong = {-1, 2, LEAST, GREATEST};
        for (int i : wrong) {
            check.due("write at " + i, x.write(0, i, 0), Check.BEYOND);
        }
        check.due("missing", x.write(3, 0, 0), Check.MISSING);
        check.due("missing, no such number", x.write(3, 99, 0), Check.MISSING);
        check.due("no sheet", x.write(4, 0, 0), Check.BEYOND);
        check.due("sheet -1", x.write(-1, 0, 0), Check.BEYOND);
    }

    /** Five numbers on a sheet as the cells of five things. */
    private static void shows(IronCall x, int s, int... cells) {
        for (int i = 0; i < cells.length; i++) {
            x.change(i, 1, cells[i]);
        }
        check.due("sheet " + s, x.judge(s), 0);
    }

    private static void copy() {
        IronCall x = Check.from("bed; bed; bed; bed; bed");
        Check.fill(x, 0, 8, 1, 2, 3, 4, 5);
        Check.fill(x, 1, 8, 6, 7, 8, 9, 10);
        check.due("copy", x.copy(0, 1, 1, 2, 3), 3);
        shows(x, 1, 6, 7, 2, 3, 4);
        shows(x, 0, 1, 2, 3, 4, 5);
        check.due("onward in itself", x.copy(0, 0, 0, 1, 4), 4);
        shows(x, 0, 1, 1, 2, 3, 4);
        check.due("back in itself", x.copy(0, 1, 0, 0, 4), 4);
        shows(x, 0, 1, 2, 3, 4, 4);
        check.due("all", x.copy(0, 0, 1, 0, 5), 5);
        shows(x, 1, 1, 2, 3, 4, 4);
        check.due("none", x.copy(0, 0, 1, 4, 0), 0);
        check.due("none from the end", x.copy(0, 5, 1, 5, 0), 0);
        shows(x, 1, 1, 2, 3, 4, 4);
        Check.fill(x, 2, 32, 15);
        Check.fill(x, 3, 32, 11, 12, 13);
        check.due("to a shorter one", x.copy(3, 1, 2, 0, 1), 1);
        shows(x, 2, 12);
    }

    private static void copyOutside() {
        IronCall x = Check.from("bed; bed; bed; bed; bed");
        Check.fill(x, 0, 8, 1, 2, 3, 4, 5);
        Check.fill(x, 1, 8, 6, 7, 8);
        Check.fill(x, 2, 16, 6, 7, 8);
        int[] sheets = {-1, 4, LEAST, GREATEST};
        for (int s : sheets) {
            check.due("from " + s, x.copy(s, 0, 0, 0, 1), Check.BEYOND);
            check.due("to " + s, x.copy(0, 0, s, 0, 1), Check.BEYOND);
            check.due("from a missing one to " + s, x.copy(3, 0, s, 0, 1), Check.BEYOND);
        }
        check.due("from a missing one", x.copy(3, 0, 2, 9, 9), Check.MISSING);
        check.due("to a missing one", x.copy(0, 9, 3, 0, 9), Check.MISSING);
        check.due("missing, in itself", x.copy(3, 0, 3, 0, 0), Check.MISSING);
        check.due("other bits", x.copy(0, 0, 2, 0, 1), Check.KIND);
        check.due("other bits, too many", x.copy(2, 9, 1, 0, -1), Check.KIND);
        int[][] wrong = {{-1, 0, 1}, {0, -1, 1}, {0, 0, -1}, {0, 0, 4}, {3, 0, 3}, {0, 1, 3}, {5, 0, 1}, {6, 0, 0},
            {0, 3, 1}, {0, 4, 0}, {GREATEST, 0, 1}, {0, GREATEST, 1}, {0, 0, GREATEST}, {1, 1, GREATEST},
            {GREATEST, GREATEST, GREATEST}, {LEAST, 0, 1}, {0, LEAST, 1}, {0, 0, LEAST}, {LEAST, LEAST, LEAST},
            {-1, 0, 0}, {0, -1, 0}};
        for (int[] w : wrong) {
            check.due("copy " + w[0] + " " + w[1] + " " + w[2], x.copy(0, w[0], 1, w[1], w[2]), Check.BEYOND);
        }
        shows(x, 0, 1, 2, 3, 4, 5);
        shows(x, 1, 6, 7, 8);
        check.due("BEYOND told", x.status(0), 3 * sheets.length + wrong.length);
    }

    private static void load() {
        IronCall x = Check.from("bed; bed; bed");
        Check.fill(x, 0, 8, 1, 99);
        check.due("two", x.load(0), 2);
        heaviesAre(x, 1, 99, 10);
        Check.fill(x, 0, 8, 5, 6, 7, 8);
        check.due("three, no fourth thing", x.load(0), 3);
        heaviesAre(x, 5, 6, 7);
        Check.fill(x, 1, 16, 20, 0, 30);
        check.due("ends at 0", x.load(1), 1);
        heaviesAre(x, 20, 6, 7);
        Check.fill(x, 1, 16, 21, 22, 100);
        check.due("ends at 100", x.load(1), 2);
        heaviesAre(x, 21, 22, 7);
        Check.fill(x, 1, 8, 150, 1);
        check.due("150 of 8 bits is below 0", x.load(1), 0);
        heaviesAre(x, 21, 22, 7);
        Check.fill(x, 1, 32, -5);
        check.due("-5", x.load(1), 0);
        x.sheet(1, 8, 0);
        check.due("none", x.load(1), 0);
        check.due("no finding", x.status(-1), 0);
        check.due("no sheet", x.load(4), Check.BEYOND);
        check.due("sheet -1", x.load(-1), Check.BEYOND);
        check.due("missing", x.load(2), Check.MISSING);
    }

    private static void heaviesAre(IronCall x, int... heavies) {
        for (int i = 0; i < heavies.length; i++) {
            check.due("heavy " + i, x.of(i, 2), heavies[i]);
        }
    }

    private static void judge() {
        IronCall x = Check.from("bed at 3; bed at 0; bed at 15");
        x.change(1, 5, 1);
        Check.fill(x, 0, 8, 3, 0, 15);
        check.due("so, taken or not", x.judge(0), 0);
        Check.fill(x, 0, 8, 3, 0);
        check.due("the first two", x.judge(0), 0);
        Check.fill(x, 0, 8, 4, 0, 14);
        check.due("not the first", x.judge(0), 1);
        Check.fill(x, 0, 8, 3, 0, 14);
        check.due("not the third", x.judge(0), 3);
        Check.fill(x, 0, 8, 3, -1, 15);
        check.due("-1 is no cell", x.judge(0), 2);
        Check.fill(x, 0, 8, 3, 0, 15, 0);
        check.due("no fourth", x.judge(0), 4);
        x.sheet(0, 8, 0);
        check.due("nothing is said", x.judge(0), 0);
        check.due("no finding", x.status(-1), 0);
        check.due("no sheet", x.judge(4), Check.BEYOND);
        check.due("sheet -1", x.judge(-1), Check.BEYOND);
        check.due("missing", x.judge(1), Check.MISSING);
    }
}
