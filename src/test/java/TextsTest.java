/** Promises 27 to 29: the tape and the texts on it. */
public final class TextsTest {
    private static final Check check = new Check();

    public static void main(String[] args) {
        feed();
        feedOutside();
        tapeIsFull();
        wipe();
        texts();
        faults();
        strangeBytes();
        cartAndLoud();
        newThings();
        faultChangesNothing();
        tooManyThings();
        longText();
        check.finish();
    }

    private static void feed() {
        IronCall x = new IronCall();
        check.due("feed l", x.feed('l', 1), 1);
        check.due("feed ou", x.feed('o' << 8 | 'u', 2), 3);
        check.due("feed d 1, more above", x.feed('x' << 24 | 'd' << 16 | ' ' << 8 | '1', 3), 6);
        check.due("feed 7;b-e", x.feed('7' << 24 | ';' << 16 | 'b' << 8 | 'e', 4), 10);
        check.due("feed d, more above", x.feed('x' << 8 | 'd', 1), 11);
        check.due("bytes", x.count(5), 11);
        check.due("text", x.text(), 2);
        check.due("loud", x.cart(3), 17);
        check.due("bed", x.of(0, 0), 4);
        check.due("empty", x.count(5), 0);
    }

    private static void feedOutside() {
        IronCall x = new IronCall();
        int[] wrong = {0, -1, 5, Integer.MIN_VALUE, Integer.MAX_VALUE};
        for (int n : wrong) {
            check.due("feed " + n, x.feed(0, n), Check.BEYOND);
        }
        check.due("bytes", x.count(5), 0);
        check.due("findings", x.status(0), wrong.length);
    }

    private static void tapeIsFull() {
        IronCall x = new IronCall();
        for (int i = 1; i <= 29; i++) {
            x.feed(0x20202020, 4);
        }
        check.due("117", x.feed(0x20, 1), 117);
        check.due("4 more", x.feed(0x20202020, 4), Check.FULL);
        check.due("still 117", x.count(5), 117);
        check.due("3 more", x.feed('b' << 16 | 'e' << 8 | 'd', 3), 120);
        check.due("1 more", x.feed(0x20, 1), Check.FULL);
        check.due("outside comes first", x.feed(0x20, 5), Check.BEYOND);
        check.due("full told", x.status(1), 2);
        check.due("text", x.text(), 1);
        check.due("room again", x.feed(0x20, 1), 1);
    }

    private static void wipe() {
        IronCall x = new IronCall();
        check.due("wipe nothing", x.wipe(), 0);
        Check.feed(x, "loud 3");
        check.due("wipe", x.wipe(), 6);
        check.due("empty", x.count(5), 0);
        check.due("text", x.text(), -1);
        check.due("loud", x.cart(3), 8);
    }

    private static void texts() {
        String[] one = {"thing", "iron", "gold", "sword", "bed", "needle", "crown", "  bed  ", "bed at 15",
            "bed at15heavy99pulled999held", "bed held", "bed heavy 1", "bed pulled 0", "bed pulled 0999",
            "bed at 0000000000000000000015", "cart 0", "cart 15 back", "cart 7 pace 0", "cart 7 back pace 3",
            "cart7back pace3", "loud 0", "loud 20", "loud 00", "bed heavy 5 held", "bed at 3 pulled 5"};
        for (String text : one) {
            check.due("«" + text + "»", Check.text(new IronCall(), text), 1);
        }
        check.due("three", Check.text(new IronCall(), "cart 3;cart 4 back ; loud 5"), 3);
        check.due("four", Check.text(new IronCall(), "bed;bed;bed;bed"), 4);
    }

    private static void faults() {
        fault("", 0);
        fault(" ", 1);
        fault("   ", 3);
        fault(";", 0);
        fault(" ;bed", 1);
        fault("bed;", 4);
        fault("bed ; ", 6);
        fault("bed;;bed", 4);
        fault("bed bed", 4);
        fault("bedbed", 0);
        fault("beds", 0);
        fault("be", 0);
        fault("thin g", 0);
        fault("bedz", 0);
        fault("bzd", 0);
        fault("zed", 0);
        fault("ged", 0);
        fault("beda", 0);
        fault("loudz 3", 0);
        fault("Bed", 0);
        fault("beD", 0);
        fault("bed at", 6);
        fault("bed at ", 7);
        fault("bed at ;", 7);
        fault("bed at bed", 7);
        fault("bed at 16", 7);
        fault("bed at 1000", 7);
        fault("bed at 4294967297", 7);
        fault("bed at 99999999999999999999", 7);
        fault("bed at 1 1", 9);
        fault("bed at 1 at 1", 9);
        fault("bedat 1", 0);
        fault("bed 1", 4);
        fault("bed heavy", 9);
        fault("bed heavy 0", 10);
        fault("bed heavy 100", 10);
        fault("bed heavy 5 at 3", 12);
        fault("bed heavy 5 heavy 5", 12);
        fault("bed pulled 1000", 11);
        fault("bed pulled 5 heavy 5", 13);
        fault("bed pulled 5 at 5", 13);
        fault("bed pulled", 10);
        fault("bed held held", 9);
        fault("bed held at 5", 9);
        fault("bed held pulled 5", 9);
        fault("bed back", 4);
        fault("at 5", 0);
        fault("held", 0);
        fault("5", 0);
        fault("back", 0);
        fault("pace 1", 0);
        fault("cart", 4);
        fault("cart ;", 5);
        fault("cart back", 5);
        fault("cart 16", 5);
        fault("cart 3 3", 7);
        fault("cart 3 back back", 12);
        fault("cart 3 pace", 11);
        fault("cart 3 pace 4", 12);
        fault("cart 3 pace 2 back", 14);
        fault("cart 3 held", 7);
        fault("cart 3 at 4", 7);
        fault("cart at 4", 5);
        fault("loud", 4);
        fault("loud 21", 5);
        fault("loud loud", 5);
        fault("loud 3 3", 7);
        fault("loud 3 bed", 7);
        fault("loud 3 ; bed , bed", 13);
        fault("loud 3;loud 21;loud 22", 12);
    }

    private static void fault(String text, int place) {
        IronCall x = new IronCall();
        check.due("«" + text + "»", Check.text(x, text), -1 - place);
        check.due("empty behind «" + text + "»", x.count(5), 0);
        check.due("no finding «" + text + "»", x.status(-1), 0);
        check.due("no thing «" + text + "»", x.count(1), 0);
        check.due("loud «" + text + "»", x.cart(3), 8);
    }

    private static void strangeBytes() {
        for (int b = 0; b < 256; b++) {
            boolean isStrange = b != ' ' && b != ';' && (b < 'a' || b > 'z') && (b < '0' || b > '9');
            if (isStrange) {
                String sign = String.valueOf((char) b);
                fault(sign, 0);
                fault("bed" + sign, 3);
                fault("bed at 1" + sign + ";", 8);
                fault("bed;  " + sign + " bed", 6);
                fault("beds " + sign, 0);
            }
        }
    }

    private static void cartAndLoud() {
        IronCall x = new IronCall();
        x.set(1, 0);
        x.set(2, 3);
        check.due("cart 9", Check.text(x, "cart 9"), 1);
        cartIs(x, 9, 1, 3, 8);
        check.due("cart 8 back", Check.text(x, "cart 8 back"), 1);
        cartIs(x, 8, 0, 3, 8);
        check.due("cart 7 pace 0", Check.text(x, "cart 7 pace 0"), 1);
        cartIs(x, 7, 1, 0, 8);
        check.due("cart 15 back pace 2; loud 20", Check.text(x, "cart 15 back pace 2; loud 20"), 2);
        cartIs(x, 15, 0, 2, 20);
        check.due("item by item", Check.text(x, "loud 4; cart 3 back; loud 5; cart 4"), 4);
        cartIs(x, 4, 1, 2, 5);
        check.due("no thing", x.count(1), 0);
        check.due("no call", x.now(0), 0);
    }

    private static void cartIs(IronCall x, int cell, int way, int pace, int loud) {
        check.due("cell", x.cart(0), cell);
        check.due("way", x.cart(1), way);
        check.due("pace", x.cart(2), pace);
        check.due("loud", x.cart(3), loud);
    }

    private static void newThings() {
        IronCall x = new IronCall();
        x.thing(4, 4);
        check.due("text", Check.text(x, "thing;iron at 1;gold heavy 2;sword pulled 3;bed held;needle at 15 heavy 99"), 6);
        check.due("text", Check.text(x, "crown at 14 heavy 98 pulled 999 held"), 1);
        int[][] due = {{4, 4, 10, 0, 0}, {0, 0, 10, 0, 0}, {1, 1, 10, 0, 0}, {2, 0, 2, 0, 0}, {3, 0, 10, 3, 0},
            {4, 0, 10, 0, 1}, {5, 15, 99, 0, 0}, {6, 14, 98, 999, 1}};
        for (int i = 0; i < 8; i++) {
            for (int what = 0; what < 5; what++) {
                check.due("told " + i + " " + what, x.of(i, what), due[i][what]);
            }
            check.due("not taken " + i, x.of(i, 5), 0);
            check.due("not moved " + i, x.of(i, 6), 0);
        }
        check.due("eight", x.count(1), 8);
    }

    private static void faultChangesNothing() {
        IronCall x = Check.from("bed at 3; cart 9 back pace 2; loud 7");
        x.seed(99);
        x.hold(3, 0);
        check.due("fault at the end", Check.text(x, "loud 3; cart 1; thing at 5; zzz"), -29);
        cartIs(x, 9, 0, 2, 7);
        check.due("things", x.count(1), 1);
        check.due("z", x.count(6), 99);
        check.due("spot", x.as(3, 4), 0);
        check.due("empty", x.count(5), 0);
        check.due("next", Check.text(x, "loud 3; cart 1; thing at 5"), 3);
        cartIs(x, 1, 1, 2, 3);
        check.due("the new one", x.of(1, 1), 5);
        check.due("spot", x.as(3, 4), 0);
        check.due("fault behind a thing", Check.text(x, "crown at 5 heavy 7 pulled 9 held; zzz"), -35);
        check.due("another thing", Check.text(x, "bed"), 1);
        int[] fresh = {4, 0, 10, 0, 0, 0, 0};
        for (int what = 0; what < 7; what++) {
            check.due("fresh " + what, x.of(2, what), fresh[what]);
        }
    }

    private static void tooManyThings() {
        IronCall x = new IronCall();
        check.due("nine", Check.text(x, "bed;bed;bed;bed;bed;bed;bed;bed; bed at 99"), -34);
        check.due("none", x.count(1), 0);
        check.due("eight", Check.text(x, "bed;bed;bed;bed;bed;bed;bed;bed"), 8);
        check.due("a ninth", Check.text(x, "loud 3;iron"), -8);
        check.due("loud", x.cart(3), 8);
        check.due("an earlier fault", Check.text(x, "loud 33;iron"), -6);
        check.due("no ninth", Check.text(x, "loud 3"), 1);
        check.due("no finding", x.status(-1), 0);
    }

    private static void longText() {
        StringBuilder all = new StringBuilder();
        while (all.length() < 113) {
            all.append("loud 1;");
        }
        check.due("119 bytes", all.length(), 119);
        check.due("it ends too early", Check.text(new IronCall(), all.toString()), -120);
        check.due("17 items", Check.text(new IronCall(), all.substring(0, 118)), 17);
        StringBuilder wide = new StringBuilder("loud");
        while (wide.length() < 119) {
            wide.append(' ');
        }
        check.due("120 bytes", Check.text(new IronCall(), wide + "7"), 1);
        check.due("120 bytes, wrong at the end", Check.text(new IronCall(), wide + "x"), -120);
        check.due("ends too early", Check.text(new IronCall(), wide + " "), -121);
        StringBuilder zeros = new StringBuilder("loud ");
        while (zeros.length() < 120) {
            zeros.append('0');
        }
        check.due("many digits", Check.text(new IronCall(), zeros.toString()), 1);
        StringBuilder signs = new StringBuilder();
        while (signs.length() < 120) {
            signs.append(';');
        }
        check.due("120 signs", Check.text(new IronCall(), signs.toString()), -1);
    }
}
