/** Promises 1 to 7: a new object, the cart, the things. */
public final class ThingsTest {
    private static final Check check = new Check();

    public static void main(String[] args) {
        newObject();
        cartIsSet();
        cartOutside();
        thingsAreMade();
        feels();
        steps();
        liked();
        likedAsItIs();
        rests();
        ofOutside();
        changes();
        changeOutside();
        who();
        check.finish();
    }

    private static void newObject() {
        IronCall x = new IronCall();
        int[] cart = {0, 1, 1, 8};
        for (int what = 0; what < 4; what++) {
            check.due("new cart " + what, x.cart(what), cart[what]);
        }
        int[] counts = {0, 0, 0, 0, 0, 0, 1, 0};
        for (int what = 0; what < 8; what++) {
            check.due("new count " + what, x.count(what), counts[what]);
        }
        int[] now = {0, 0, 0, 0, 0, -1, 0, 0};
        for (int what = 0; what < 8; what++) {
            check.due("new now " + what, x.now(what), now[what]);
        }
        for (int which = -1; which < 7; which++) {
            check.due("new status " + which, x.status(which), 0);
        }
        for (int cell = 0; cell < 16; cell++) {
            check.due("new who " + cell, x.who(cell), 0);
        }
        for (int spot = 0; spot < 10; spot++) {
            check.due("new spot " + spot, x.as(spot, 0), Check.MISSING);
        }
        for (int s = 0; s < 4; s++) {
            check.due("new sheet " + s, x.judge(s), Check.MISSING);
        }
        check.due("new thing", x.of(0, 0), Check.BEYOND);
        check.due("new image", x.undo(), Check.NONE);
        check.due("new tear", x.tear(), 0);
        check.due("new tape", x.text(), -1);
    }

    private static void cartIsSet() {
        IronCall x = new IronCall();
        int[][] sets = {{0, 15, 0}, {0, 3, 15}, {0, 0, 3}, {1, 0, 1}, {1, 0, 0}, {1, 1, 0},
            {2, 0, 1}, {2, 3, 0}, {2, 2, 3}, {3, 0, 8}, {3, 20, 0}, {3, 19, 20}};
        for (int[] s : sets) {
            check.due("set " + s[0] + " " + s[1], x.set(s[0], s[1]), s[2]);
            check.due("cart " + s[0], x.cart(s[0]), s[1]);
        }
        int[] left = {0, 1, 2, 19};
        for (int what = 0; what < 4; what++) {
            check.due("left cart " + what, x.cart(what), left[what]);
        }
    }

    private static void cartOutside() {
        IronCall x = new IronCall();
        int[][] sets = {{0, -1}, {0, 16}, {1, -1}, {1, 2}, {2, -1}, {2, 4}, {3, -1}, {3, 21},
            {-1, 0}, {4, 0}, {Integer.MIN_VALUE, 1}, {Integer.MAX_VALUE, 1},
            {0, Integer.MIN_VALUE}, {3, Integer.MAX_VALUE}};
        for (int[] s : sets) {
            check.due("set " + s[0] + " " + s[1], x.set(s[0], s[1]), Check.BEYOND);
        }
        int[] whats = {-1, 4, Integer.MIN_VALUE, Integer.MAX_VALUE};
        for (int what : whats) {
            check.due("cart " + what, x.cart(what), Check.BEYOND);
        }
        check.due("findings", x.status(0), sets.length + whats.length);
        int[] cart = {0, 1, 1, 8};
        for (int what = 0; what < 4; what++) {
            check.due("unchanged cart " + what, x.cart(what), cart[what]);
        }
    }

    private static void thingsAreMade() {
        IronCall x = new IronCall();
        check.due("kind -1", x.thing(-1, 0), Check.BEYOND);
        check.due("kind 7", x.thing(7, 0), Check.BEYOND);
        check.due("cell -1", x.thing(0, -1), Check.BEYOND);
        check.due("cell 16", x.thing(0, 16), Check.BEYOND);
        check.due("none made", x.count(1), 0);
        for (int i = 0; i < 8; i++) {
            check.due("thing " + i, x.thing(i % 7, 15 - i), i);
            int[] fresh = {i % 7, 15 - i, 10, 0, 0, 0, 0};
            for (int what = 0; what < 7; what++) {
                check.due("fresh " + i + " " + what, x.of(i, what), fresh[what]);
            }
            check.due("made", x.count(1), i + 1);
        }
        check.due("ninth", x.thing(0, 0), Check.FULL);
        check.due("ninth of no kind", x.thing(7, 0), Check.BEYOND);
        check.due("ninth at no cell", x.thing(0, 16), Check.BEYOND);
        check.due("still eight", x.count(1), 8);
        check.due("full told", x.status(1), 1);
    }

    private static void feels() {
        // By kind, for how far it is: 0 to 15, with the cart as loud as 8.
        int[][] due = {
            {8, 7, 6, 5, 4, 3, 2, 1, 0, 0, 0, 0, 0, 0, 0, 0},
            {16, 14, 12, 10, 8, 6, 4, 2, 0, 0, 0, 0, 0, 0, 0, 0},
            {2, 2, 2, 1, 1, 1, 0, 0, 0, 0, 0, 0, 0, 0, 0, 0},
            {19, 17, 15, 13, 8, 6, 4, 2, 0, 0, 0, 0, 0, 0, 0, 0},
            {15, 13, 11, 9, 4, 2, 0, 0, 0, 0, 0, 0, 0, 0, 0, 0},
            {8, 7, 8, 5, 8, 3, 8, 1, 8, 0, 8, 0, 8, 0, 8, 0},
            {2, 2, 2, 1, 1, 1, 0, 0, 0, 0, 0, 0, 0, 0, 0, 0}};
        for (int kind = 0; kind < 7; kind++) {
            for (int far = 0; far < 16; far++) {
                IronCall x = new IronCall();
                x.thing(kind, far);
                check.due("feels " + kind + " far " + far, x.of(0, 7), due[kind][far]);
                check.due("far", x.of(0, 11), far);
                x.set(0, 15);
                check.due("feels, from the other end", x.of(0, 7), due[kind][15 - far]);
                check.due("far, from the other end", x.of(0, 11), 15 - far);
            }
        }
        IronCall silent = Check.from("loud 0; sword at 3; bed at 3; needle at 2; sword at 4; bed at 4");
        int[] quiet = {3, 0, 0, 0, 0};
        for (int i = 0; i < 5; i++) {
            check.due("silent " + i, silent.of(i, 7), quiet[i]);
        }
        IronCall crowns = Check.from("crown at 2; crown at 2; thing at 2; bed at 2 held; thing at 3");
        check.due("a crown in company", crowns.of(0, 7), 2 + 3);
        check.due("another crown", crowns.of(1, 7), 2 + 3);
        crowns.change(2, 5, 1);
        check.due("one is taken", crowns.of(0, 7), 2 + 2);
        crowns.change(0, 5, 1);
        check.due("itself taken", crowns.of(0, 7), 2 + 2);
        check.due("the other is taken", crowns.of(1, 7), 2 + 1);
        crowns.change(1, 1, 3);
        check.due("elsewhere", crowns.of(1, 7), 1 + 1);
    }

    private static void steps() {
        int[] due = {1, 1, 1, 2, 1, 1, 1};
        int[] light = {1, 1, 1, 2, 1, 3, 1};
        IronCall x = new IronCall();
        x.thing(0, 0);
        for (int kind = 0; kind < 7; kind++) {
            x.change(0, 0, kind);
            x.change(0, 2, 6);
            check.due("steps " + kind, x.of(0, 8), due[kind]);
            x.change(0, 2, 5);
            check.due("steps " + kind + ", light", x.of(0, 8), light[kind]);
        }
    }

    private static void liked() {
        // KIND, HEAVY, PULLED, MOVED, LIKED
        int[][] due = {{0, 99, 0, 0, 1}, {1, 20, 0, 0, 1}, {1, 21, 0, 9, 0}, {2, 99, 0, 0, 1},
            {3, 20, 0, 0, 1}, {3, 21, 0, 4, 0}, {3, 21, 0, 5, 1}, {4, 1, 9, 9, 0},
            {5, 1, 9, 9, 0}, {6, 1, 4, 9, 0}, {6, 99, 5, 0, 1}};
        IronCall x = new IronCall();
        x.thing(0, 0);
        for (int[] d : due) {
            x.change(0, 0, d[0]);
            x.change(0, 2, d[1]);
            x.change(0, 3, d[2]);
            x.change(0, 6, d[3]);
            check.due("liked " + d[0] + " heavy " + d[1] + " pulled " + d[2] + " moved " + d[3],
                    x.of(0, 9), d[4]);
        }
    }

    private static void likedAsItIs() {
        IronCall x = Check.from("iron at 4 held; gold at 5");
        x.change(1, 5, 1);
        check.due("liked, held or not", x.of(0, 9), 1);
        check.due("liked, taken or not", x.of(1, 9), 1);
    }

    private static void rests() {
        int[] due = {1, 0, 2, 0, 2, 0, 4};
        IronCall x = new IronCall();
        for (int kind = 0; kind < 7; kind++) {
            x.thing(kind, 0);
            check.due("rests " + kind, x.of(kind, 10), due[kind]);
        }
    }

    private static void ofOutside() {
        IronCall x = new IronCall();
        x.thing(1, 4);
        int[][] asked = {{-1, 0}, {1, 0}, {8, 0}, {0, -1}, {0, 12}, {1, 12},
            {Integer.MIN_VALUE, 0}, {Integer.MAX_VALUE, 0}, {0, Integer.MIN_VALUE}};
        for (int[] a : asked) {
            check.due("of " + a[0] + " " + a[1], x.of(a[0], a[1]), Check.BEYOND);
        }
        check.due("findings", x.status(0), asked.length);
    }

    private static void changes() {
        int[] first = {1, 4, 10, 0, 0, 0, 0};
        int[] most = {6, 15, 99, 999, 1, 1, 9999};
        int[] least = {0, 0, 1, 0, 0, 0, 0};
        IronCall x = new IronCall();
        x.thing(2, 8);
        x.thing(1, 4);
        for (int what = 0; what < 7; what++) {
            check.due("change up " + what, x.change(1, what, most[what]), first[what]);
            check.due("changed up " + what, x.of(1, what), most[what]);
            check.due("change down " + what, x.change(1, what, least[what]), most[what]);
            check.due("changed down " + what, x.of(1, what), least[what]);
            check.due("change again " + what, x.change(1, what, first[what]), least[what]);
        }
        int[] other = {2, 8, 10, 0, 0, 0, 0};
        for (int what = 0; what < 7; what++) {
            check.due("the other " + what, x.of(0, what), other[what]);
        }
    }

    private static void changeOutside() {
        int[] most = {6, 15, 99, 999, 1, 1, 9999};
        int[] least = {0, 0, 1, 0, 0, 0, 0};
        int[] first = {1, 4, 10, 0, 0, 0, 0};
        IronCall x = new IronCall();
        x.thing(1, 4);
        for (int what = 0; what < 7; what++) {
            check.due("over " + what, x.change(0, what, most[what] + 1), Check.BEYOND);
            check.due("under " + what, x.change(0, what, least[what] - 1), Check.BEYOND);
            check.due("no thing " + what, x.change(1, what, 1), Check.BEYOND);
            check.due("unchanged " + what, x.of(0, what), first[what]);
        }
        check.due("thing -1", x.change(-1, 0, 0), Check.BEYOND);
        for (int what = 7; what < 13; what++) {
            check.due("what " + what, x.change(0, what, 0), Check.BEYOND);
        }
        check.due("what -1", x.change(0, -1, 0), Check.BEYOND);
        check.due("least int", x.change(0, 3, Integer.MIN_VALUE), Check.BEYOND);
        check.due("greatest int", x.change(0, 3, Integer.MAX_VALUE), Check.BEYOND);
    }

    private static void who() {
        IronCall x = Check.from("thing at 4; iron; bed at 4 held; gold at 15; crown at 4");
        check.due("who 4", x.who(4), 1 | 4 | 16);
        check.due("who 0", x.who(0), 2);
        check.due("who 15", x.who(15), 8);
        check.due("who 1", x.who(1), 0);
        x.change(2, 5, 1);
        check.due("who 4, one taken", x.who(4), 1 | 16);
        check.due("who -1", x.who(-1), Check.BEYOND);
        check.due("who 16", x.who(16), Check.BEYOND);
        check.due("who least", x.who(Integer.MIN_VALUE), Check.BEYOND);
    }
}
