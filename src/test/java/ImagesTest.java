/** Promises 37 to 41: images, counts, findings. */
public final class ImagesTest {
    private static final Check check = new Check();

    public static void main(String[] args) {
        undo();
        kept();
        madeSince();
        tapeAndSheetsStay();
        latest();
        tear();
        count();
        countOutside();
        status();
        seedIsNoFinding();
        check.finish();
    }

    private static IronCall lived() {
        IronCall x = Check.from("cart 4 back pace 2; loud 9; iron at 6; gold at 5 heavy 4; bed at 1 pulled 19; thing at 2");
        x.go(7);
        x.hold(3, 1);
        x.hold(9, 2);
        x.seed(77);
        x.change(3, 4, 1);
        return x;
    }

    private static void undo() {
        IronCall x = new IronCall();
        check.due("nothing kept", x.undo(), Check.NONE);
        check.due("NONE told", x.status(3), 1);
        check.due("image", x.image(), 1);
        x.go(5);
        x.thing(3, 4);
        check.due("undo", x.undo(), 0);
        check.due("no thing", x.count(1), 0);
        check.due("no call", x.now(0), 0);
        check.due("cart", x.cart(0), 0);
        x.go(9);
        check.due("it stays kept", x.undo(), 0);
        check.due("cart again", x.cart(0), 0);
    }

    private static void kept() {
        IronCall x = lived();
        IronCall y = lived();
        check.due("image", x.image(), 1);
        x.calls(9);
        x.set(2, 3);
        x.set(1, 1);
        for (int thing = 0; thing < 4; thing++) {
            int[] other = {6, 15, 99, 998, 1, 1, 77};
            for (int what = 0; what < 7; what++) {
                x.change(thing, what, other[what]);
            }
        }
        x.thing(6, 6);
        x.hold(3, -1);
        x.hold(4, 4);
        x.hold(9, 4);
        check.due("undo", x.undo(), 7);
        same(x, y);
        x.thing(5, 5);
        check.due("a new one is as new", x.of(4, 0), 5);
        check.due("a new one is not taken", x.of(4, 5), 0);
        check.due("nor moved", x.of(4, 6), 0);
        x.go(1);
        check.due("undo again", x.undo(), 7);
        same(x, y);
    }

    /** Things made since are no more, in what is told of all, and the next is a new one. */
    private static void madeSince() {
        IronCall x = new IronCall();
        x.image();
        x.thing(6, 3);
        int[] other = {6, 3, 99, 998, 1, 1, 77};
        for (int what = 0; what < 7; what++) {
            x.change(0, what, other[what]);
        }
        check.due("undo", x.undo(), 0);
        int[] now = {0, 0, 0, 0, 0, -1, 0, 0};
        for (int what = 0; what < 8; what++) {
            check.due("now " + what, x.now(what), now[what]);
        }
        for (int what = 0; what < 5; what++) {
            check.due("count " + what, x.count(what), 0);
        }
        check.due("who", x.who(3), 0);
        check.due("a new one", x.thing(1, 2), 0);
        int[] fresh = {1, 2, 10, 0, 0, 0, 0};
        for (int what = 0; what < 7; what++) {
            check.due("fresh " + what, x.of(0, what), fresh[what]);
        }
    }

    private static void same(IronCall x, IronCall y) {
        for (int what = 0; what < 4; what++) {
            check.due("cart " + what, x.cart(what), y.cart(what));
        }
        for (int what = 0; what < 8; what++) {
            check.due("count " + what, x.count(what), y.count(what));
            check.due("now " + what, x.now(what), y.now(what));
        }
        for (int thing = 0; thing < 4; thing++) {
            for (int what = 0; what < 12; what++) {
                check.due("of " + thing + " " + what, x.of(thing, what), y.of(thing, what));
            }
        }
        check.due("spot 3", x.as(3, 0), 1);
        check.due("spot 9", x.as(9, 0), 2);
        check.due("spot 4", x.as(4, 0), Check.MISSING);
        check.due("no fifth", x.of(4, 0), Check.BEYOND);
    }

    private static void tapeAndSheetsStay() {
        IronCall x = new IronCall();
        x.image();
        Check.feed(x, "loud 3");
        Check.fill(x, 2, 8, 5);
        x.who(16);
        x.undo();
        check.due("tape", x.count(5), 6);
        check.due("sheet", x.judge(2), 1);
        check.due("status", x.status(-1), 1);
        check.due("text", x.text(), 1);
        check.due("loud", x.cart(3), 3);
        check.due("undo a text", x.undo(), 0);
        check.due("loud again", x.cart(3), 8);
        x.sheet(2, 0, 0);
        x.undo();
        check.due("still missing", x.judge(2), Check.MISSING);
    }

    private static void latest() {
        IronCall x = new IronCall();
        x.go(2);
        x.image();
        x.go(3);
        x.image();
        x.go(4);
        check.due("the latest", x.undo(), 5);
        check.due("cart", x.cart(0), 5);
        check.due("and again", x.undo(), 5);
    }

    private static void tear() {
        IronCall x = new IronCall();
        check.due("nothing", x.tear(), 0);
        x.go(2);
        x.image();
        x.go(2);
        check.due("something", x.tear(), 1);
        check.due("nothing now", x.tear(), 0);
        check.due("no undo", x.undo(), Check.NONE);
        check.due("the street stays", x.now(0), 4);
        x.image();
        check.due("kept again", x.undo(), 4);
    }

    private static void count() {
        IronCall x = lived();
        x.change(0, 5, 1);
        x.change(2, 5, 1);
        x.feed(0x2020, 2);
        int pulled = 0;
        int moved = 0;
        int taken = 0;
        for (int i = 0; i < 4; i++) {
            pulled += x.of(i, 3);
            moved += x.of(i, 6);
            taken += x.of(i, 5);
        }
        int[] due = {7, 4, taken, pulled, moved, 2, 77, 2};
        for (int what = 0; what < 8; what++) {
            check.due("count " + what, x.count(what), due[what]);
        }
        check.due("some pulled", pulled > 0 ? 1 : 0, 1);
        check.due("some moved", moved > 0 ? 1 : 0, 1);
        IronCall y = Check.from("bed pulled 999 held; bed pulled 5; bed");
        y.change(1, 6, 9999);
        y.change(2, 6, 2);
        check.due("pulled, held or not", y.count(3), 1004);
        check.due("moved", y.count(4), 10001);
        check.due("none taken", y.count(2), 0);
    }

    private static void countOutside() {
        IronCall x = new IronCall();
        int[] wrong = {-1, 8, Integer.MIN_VALUE, Integer.MAX_VALUE};
        for (int what : wrong) {
            check.due("count " + what, x.count(what), Check.BEYOND);
        }
        check.due("findings", x.status(0), wrong.length);
    }

    private static void status() {
        IronCall x = Check.from("bed; bed; bed; bed; bed; bed; bed; bed");
        x.who(-1);
        x.who(-1);
        x.thing(0, 0);
        x.hold(0, 0);
        x.as(0, 6);
        x.taken(0);
        x.undo();
        x.fits(0, 0);
        x.sheet(0, 8, -1);
        x.sheet(0, 8, -1);
        x.sheet(0, 8, -1);
        int[] due = {2, 1, 1, 2, 0, 1, 3};
        for (int which = 0; which < 7; which++) {
            check.due("status " + which, x.status(which), due[which]);
        }
        check.due("all", x.status(-1), 10);
        int[] wrong = {-2, 7, Integer.MIN_VALUE, Integer.MAX_VALUE};
        for (int i = 0; i < wrong.length; i++) {
            check.due("status " + wrong[i], x.status(wrong[i]), Check.BEYOND);
            check.due("counted from then on", x.status(0), 3 + i);
            check.due("and in all", x.status(-1), 11 + i);
        }
        x.image();
        x.who(16);
        x.undo();
        check.due("undo takes none back", x.status(0), 7);
        x.odds(0, 0, 16, 0);
        check.due("in longs, too", x.status(0), 8);
        x.tear();
        check.due("tear takes none back", x.status(-1), 16);
        Check.text(x, "zzz");
        check.due("a fault is none", x.status(-1), 16);
    }

    private static void seedIsNoFinding() {
        IronCall x = new IronCall();
        x.seed(-1000001);
        x.count(6);
        x.seed(-1000007);
        x.seed(Integer.MIN_VALUE);
        x.count(6);
        x.seed(0);
        for (int which = -1; which < 7; which++) {
            check.due("status " + which, x.status(which), 0);
        }
    }
}
