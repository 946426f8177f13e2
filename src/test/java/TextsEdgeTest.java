/** Boundary cases of text 3 of the document's Terms (texts) and of promises 27 to 29: feed, wipe, text. */
public final class TextsEdgeTest extends Edge {
    public static void main(String[] args) {
        runAll(TextsEdgeTest.class);
    }

    private static IronCall wiped() {
        IronCall x = lived();
        x.wipe();
        return x;
    }

    /** The text is one of so many items; nothing is found fault with. */
    private static IronCall reads(String text, int items) {
        IronCall x = new IronCall();
        due(Check.text(x, text), items);
        due(x.count(5), 0);
        due(x.status(-1), 0);
        return x;
    }

    /** The text has its FAULT there; nothing changes but that the tape, filled for it, is empty again. */
    private static void faulty(String text, int place) {
        tells(TextsEdgeTest::wiped, -1 - place, x -> Check.text(x, text));
    }

    private static String blanksOf(int n) {
        return " ".repeat(n);
    }

    // ---- tokens

    static void terms3_wordAsLongAsCanBe() {
        thingIs(reads("bed at 3", 1), 0, 4, 3);
        faulty("bedat 3", 0);
        faulty("bed atheld", 4);
    }

    static void terms3_numberAsLongAsCanBe() {
        thingIs(reads("bed at 15", 1), 0, 4, 15);
        faulty("bed at 1 5", 9);
        faulty("bed at 153", 7);
    }

    static void terms3_noBlanksBetween() {
        IronCall x = reads("bed at3heavy4pulled5held;cart6back pace2;loud7", 3);
        thingIs(x, 0, 4, 3, 4, 5, 1);
        cartIs(x, 6, 0, 2, 7);
    }

    static void terms3_blanksBetweenAndAround() {
        IronCall x = reads("  bed   at  3  heavy  4  pulled  5  held  ;  cart  6  back  pace  2  ;  loud  7  ", 3);
        thingIs(x, 0, 4, 3, 4, 5, 1);
        cartIs(x, 6, 0, 2, 7);
    }

    static void terms3_blankWithinAWord() {
        faulty("be d", 0);
        faulty("bed hel d", 4);
    }

    static void terms3_lettersAToZ() {
        // '`' stands ahead of a, '{' behind z; large letters are none.
        reads("bed", 1);
        faulty("bed`", 3);
        faulty("bed{", 3);
        faulty("`", 0);
        faulty("{", 0);
        faulty("A", 0);
        faulty("Z", 0);
        faulty("beD", 0);
        faulty("bed D", 4);
        faulty("a", 0);
        faulty("z", 0);
        faulty("bed a", 4);
        faulty("bed z", 4);
        faulty("beda", 0);
        faulty("bedz", 0);
    }

    static void terms3_digits0To9() {
        // '/' stands ahead of 0, ':' behind 9.
        due(reads("loud 10", 1).cart(3), 10);
        due(reads("loud 19", 1).cart(3), 19);
        faulty("loud 1/", 6);
        faulty("loud 1:", 6);
        faulty("loud /", 5);
        faulty("loud :", 5);
    }

    static void terms3_signAndItsNeighbours() {
        reads("bed;bed", 2);
        faulty("bed:bed", 3);
        faulty("bed<bed", 3);
        faulty("bed,bed", 3);
    }

    static void terms3_blankAndItsNeighbours() {
        reads("bed ;bed", 2);
        faulty("bed\u001f;bed", 3);
        faulty("bed!;bed", 3);
        faulty("bed\t;bed", 3);
        faulty("bed\n;bed", 3);
        faulty("bed\u00a0;bed", 3);
    }

    static void terms3_bytes0And127And128And255() {
        faulty("\u0000", 0);
        faulty("bed\u0000", 3);
        faulty("bed \u007f", 4);
        faulty("bed; \u0080", 5);
        faulty("loud 3\u00ff", 6);
        // 128 more than each of a letter, a digit, the sign, a blank.
        faulty("\u00e2ed", 0);
        faulty("loud \u00b3", 5);
        faulty("bed\u00bbbed", 3);
        faulty("bed\u00a0", 3);
    }

    static void terms3_faultOfAByteWithinAToken() {
        // The WORD ends there, and is none that can stand there.
        faulty("be#d", 0);
        faulty("bed#", 3);
        faulty("loud 2#1", 6);
    }

    static void terms3_number999IsOne1000IsNone() {
        due(reads("bed pulled 999", 1).of(0, 3), 999);
        faulty("bed pulled 1000", 11);
    }

    static void terms3_numberOfManyDigits() {
        faulty("loud 2147483648", 5);
        faulty("loud 4294967297", 5);
        faulty("loud 18446744073709551617", 5);
        faulty("loud " + "9".repeat(115), 5);
        due(reads("loud " + "0".repeat(113) + "20", 1).cart(3), 20);
        faulty("loud " + "0".repeat(113) + "21", 5);
    }

    // ---- texts

    static void terms3_emptyText() {
        faulty("", 0);
        tells(TextsEdgeTest::wiped, -1, x -> x.text());
    }

    static void terms3_blanksAlone() {
        faulty(" ", 1);
        faulty(blanksOf(119), 119);
        faulty(blanksOf(120), 120);
    }

    static void terms3_oneItemAndMore() {
        reads("loud 1", 1);
        reads("loud 1;loud 1", 2);
        reads("bed;bed;bed;bed;bed;bed;bed;bed", 8);
    }

    static void terms3_mostItemsOf120Bytes() {
        String twenty = "loud1;".repeat(19) + "loud1";
        due(twenty.length(), 119);
        reads(twenty, 20);
        reads(twenty + " ", 20);
        faulty(twenty + ";", 120);
        String more = "bed;".repeat(8) + "loud1;".repeat(13) + "loud1";
        reads(more, 22);
    }

    static void terms3_endsBehindASign() {
        reads("bed", 1);
        faulty("bed;", 4);
        faulty("bed; ", 5);
    }

    static void terms3_signWhereAnItemIsDue() {
        reads("bed;loud 3", 2);
        faulty(";bed", 0);
        faulty("bed;;bed", 4);
        faulty("bed; ;", 5);
    }

    static void terms3_itemBehindAnItem() {
        faulty("bed bed", 4);
        faulty("loud 3 bed", 7);
        faulty("cart 3 loud 3", 7);
        faulty("bed cart 3", 4);
    }

    static void terms3_itemBeginsWithAWordOfItsOwn() {
        String[] kinds = {"thing", "iron", "gold", "sword", "bed", "needle", "crown"};
        for (int kind = 0; kind < 7; kind++) {
            thingIs(reads(kinds[kind], 1), 0, kind, 0, 10, 0, 0, 0, 0);
            faulty(kinds[kind] + "s", 0);
            faulty(kinds[kind].substring(1), 0);
            faulty(kinds[kind].substring(0, kinds[kind].length() - 1), 0);
        }
        String[] others = {"at 3", "heavy 3", "pulled 3", "held", "back", "pace 3", "3", "kind", "carts 3", "lou 3"};
        for (String other : others) {
            faulty(other, 0);
            faulty("bed; " + other, 5);
        }
    }

    /** Each WORD with one letter changed for its neighbour is another WORD. */
    static void terms3_wordsLetterByLetter() {
        String[] heads = {"", "", "", "", "", "", "", "bed ", "bed ", "bed ", "bed ", "", "cart 3 ", "cart 3 ", ""};
        String[] words = {"thing", "iron", "gold", "sword", "bed", "needle", "crown", "at", "heavy", "pulled", "held",
            "cart", "back", "pace", "loud"};
        String[] tails = {"", "", "", "", "", "", "", " 1", " 1", " 1", "", " 1", "", " 1", " 1"};
        for (int w = 0; w < words.length; w++) {
            reads(heads[w] + words[w] + tails[w], 1);
            for (int i = 0; i < words[w].length(); i++) {
                char[] letters = words[w].toCharArray();
                letters[i] += letters[i] == 'z' ? -1 : 1;
                String text = heads[w] + new String(letters) + tails[w];
                due(Check.text(new IronCall(), text), -1 - heads[w].length());
            }
        }
    }

    static void terms3_firstFaultIsTold() {
        faulty("loud 21;loud 22", 5);
        faulty("loud 20;loud 21;bed at 16", 13);
        faulty("zzz;#", 0);
        faulty("bed # zzz", 4);
    }

    // ---- items of things

    static void terms3_atCell0And15And16() {
        thingIs(reads("bed at 0", 1), 0, 4, 0);
        thingIs(reads("bed at 15", 1), 0, 4, 15);
        faulty("bed at 16", 7);
    }

    static void terms3_heavy0And1() {
        thingIs(reads("bed heavy 1", 1), 0, 4, 0, 1);
        faulty("bed heavy 0", 10);
    }

    static void terms3_heavy99And100() {
        thingIs(reads("bed heavy 99", 1), 0, 4, 0, 99);
        faulty("bed heavy 100", 10);
    }

    static void terms3_pulled0And999And1000() {
        thingIs(reads("bed pulled 0", 1), 0, 4, 0, 10, 0);
        thingIs(reads("bed pulled 999", 1), 0, 4, 0, 10, 999);
        faulty("bed pulled 1000", 11);
    }

    static void terms3_thingWithoutMore() {
        IronCall x = Check.from("cart 7 back pace 3; loud 2");
        due(Check.text(x, "needle"), 1);
        thingIs(x, 0, 5, 0, 10, 0, 0, 0, 0);
        cartIs(x, 7, 0, 3, 2);
    }

    static void terms3_thingWithSomeOfIt() {
        thingIs(reads("needle held", 1), 0, 5, 0, 10, 0, 1, 0, 0);
        thingIs(reads("needle at 4 held", 1), 0, 5, 4, 10, 0, 1, 0, 0);
        thingIs(reads("needle at 4 pulled 5", 1), 0, 5, 4, 10, 5, 0, 0, 0);
        thingIs(reads("needle heavy 6 pulled 5", 1), 0, 5, 0, 6, 5, 0, 0, 0);
        thingIs(reads("needle heavy 6 held", 1), 0, 5, 0, 6, 0, 1, 0, 0);
        thingIs(reads("needle at 4 heavy 6 pulled 5 held", 1), 0, 5, 4, 6, 5, 1, 0, 0);
    }

    static void terms3_thingsPartsOutOfOrder() {
        faulty("bed heavy 5 at 3", 12);
        faulty("bed pulled 5 at 3", 13);
        faulty("bed pulled 5 heavy 3", 13);
        faulty("bed held at 3", 9);
        faulty("bed held heavy 3", 9);
        faulty("bed held pulled 3", 9);
    }

    static void terms3_thingsPartsTwice() {
        faulty("bed at 3 at 3", 9);
        faulty("bed heavy 3 heavy 3", 12);
        faulty("bed pulled 3 pulled 3", 13);
        faulty("bed held held", 9);
    }

    static void terms3_thingsNumberIsNone() {
        faulty("bed at held", 7);
        faulty("bed at ;", 7);
        faulty("bed at #", 7);
        faulty("bed heavy at 3", 10);
        faulty("bed pulled -1", 11);
        faulty("bed 3", 4);
        faulty("bed held 1", 9);
    }

    static void terms3_numberWhereAWordIsDue() {
        for (int n = 0; n <= 30; n++) {
            faulty(n + " 3", 0);
            faulty("bed " + n, 4);
            faulty("bed " + n + " 3", 4);
            faulty("cart 3 " + n, 7);
            faulty("cart 3 " + n + " 2", 7);
            faulty("bed; " + n + " 3", 5);
        }
    }

    static void terms3_thingEndsTooEarly() {
        faulty("bed at", 6);
        faulty("bed at ", 7);
        faulty("bed heavy", 9);
        faulty("bed heavy  ", 11);
        faulty("bed pulled", 10);
        faulty("bed at 3 heavy 4 pulled", 23);
    }

    static void terms3_cartsPartsAtAThing() {
        faulty("bed back", 4);
        faulty("bed pace 1", 4);
        faulty("bed at 3 back", 9);
    }

    static void terms3_eighthThingNinthIsAFault() {
        String seven = "bed;".repeat(7);
        IronCall x = reads(seven + "bed at 7", 8);
        thingIs(x, 7, 4, 7);
        faulty("bed;bed;bed;bed", 12);
        tells(Edge::eightWithoutTape, -1, y -> Check.text(y, "bed"));
        tells(Edge::eightWithoutTape, -1 - 7, y -> Check.text(y, "loud 3;bed"));
        tells(Edge::fresh, -1 - 32, y -> Check.text(y, seven + "bed;bed"));
    }

    static void terms3_ninthThingsOwnPlace() {
        // The WORD of the 9th itself, not what is wrong behind it; what is wrong ahead of it comes first.
        tells(Edge::eightWithoutTape, -1 - 1, y -> Check.text(y, " bed at 16"));
        tells(Edge::eightWithoutTape, -1 - 5, y -> Check.text(y, "loud 21;bed"));
        tells(Edge::eightWithoutTape, -1, y -> Check.text(y, "beds"));
    }

    // ---- items of the cart, and loud

    static void terms3_cartCell0And15And16() {
        cartIs(reads("cart 0", 1), 0, 1, 1, 8);
        cartIs(reads("cart 15", 1), 15, 1, 1, 8);
        faulty("cart 16", 5);
    }

    static void terms3_cartPace0And3And4() {
        cartIs(reads("cart 5 pace 0", 1), 5, 1, 0, 8);
        cartIs(reads("cart 5 pace 3", 1), 5, 1, 3, 8);
        faulty("cart 5 pace 4", 12);
    }

    static void terms3_cartWithoutBackOrPace() {
        IronCall x = Check.from("cart 9 back pace 3");
        cartIs(x, 9, 0, 3, 8);
        due(Check.text(x, "cart 9"), 1);
        cartIs(x, 9, 1, 3, 8);
        due(Check.text(x, "cart 9 back"), 1);
        cartIs(x, 9, 0, 3, 8);
        due(Check.text(x, "cart 8 pace 2"), 1);
        cartIs(x, 8, 1, 2, 8);
    }

    static void terms3_cartsPartsOutOfOrderOrTwice() {
        faulty("cart 5 pace 2 back", 14);
        faulty("cart 5 back back", 12);
        faulty("cart 5 pace 2 pace 2", 14);
        faulty("cart back", 5);
        faulty("cart pace 2", 5);
        faulty("cart at 5", 5);
    }

    static void terms3_cartsNumberIsNone() {
        faulty("cart ;", 5);
        faulty("cart #", 5);
        faulty("cart 5 5", 7);
        faulty("cart 5 pace back", 12);
        faulty("cart 5 held", 7);
        faulty("cart 5 heavy 5", 7);
    }

    static void terms3_cartEndsTooEarly() {
        faulty("cart", 4);
        faulty("cart ", 5);
        faulty("cart 5 pace", 11);
        faulty("cart 5 back pace ", 17);
    }

    static void terms3_loud0And20And21() {
        cartIs(reads("loud 0", 1), 0, 1, 1, 0);
        cartIs(reads("loud 20", 1), 0, 1, 1, 20);
        faulty("loud 21", 5);
    }

    static void terms3_loudsNumberIsNoneOrEnds() {
        faulty("loud", 4);
        faulty("loud  ", 6);
        faulty("loud ;", 5);
        faulty("loud loud", 5);
        faulty("loud 5 5", 7);
        faulty("loud 5 back", 7);
    }

    // ---- promise 27: feed

    static void promise27_nTooSmall() {
        IronCall x = lived();
        due(x.feed('x', 1), 17);
        due(x.count(5), 17);
        refused(BEYOND, y -> y.feed('x', 0));
        refused(BEYOND, y -> y.feed('x', -1));
    }

    static void promise27_nTooLarge() {
        IronCall x = lived();
        due(x.feed('x', 4), 20);
        due(x.count(5), 20);
        refused(BEYOND, y -> y.feed('x', 5));
    }

    static void promise27_farBeyond() {
        refused(BEYOND, x -> x.feed(0, LEAST));
        refused(BEYOND, x -> x.feed(0, GREATEST));
    }

    private static IronCall tapeOf(int bytes) {
        IronCall x = new IronCall();
        blanks(x, bytes);
        due(x.count(5), bytes);
        return x;
    }

    static void promise27_120BytesAre121AreFull() {
        for (int n = 1; n <= 4; n++) {
            int fed = n;
            IronCall x = tapeOf(120 - n);
            due(x.feed(0x20202020, n), 120);
            due(x.feed(0x20202020, 1), FULL);
            refused(() -> tapeOf(121 - fed), FULL, y -> y.feed(0x20202020, fed));
            refused(Edge::full, FULL, y -> y.feed(0x20202020, fed));
        }
    }

    static void promise27_nothingOfItIsFedIfFull() {
        IronCall x = tapeOf(117);
        due(x.feed('b' << 24 | 'e' << 16 | 'd' << 8 | 's', 4), FULL);
        due(x.count(5), 117);
        due(x.feed('b' << 16 | 'e' << 8 | 'd', 3), 120);
        due(x.text(), 1);
    }

    static void promise27_beyondAheadOfFull() {
        refused(Edge::full, BEYOND, x -> x.feed(0, 0));
        refused(Edge::full, BEYOND, x -> x.feed(0, 5));
        refused(Edge::full, BEYOND, x -> x.feed(0, GREATEST));
    }

    static void promise27_lowestBytesHighestFirst() {
        // The lowest are the end of "loud 3"; 7f above them is no byte of a text.
        int[] bytes = {0x7f7f7f33, 0x7f7f2033, 0x7f642033, 0x75642033};
        for (int n = 1; n <= 4; n++) {
            IronCall x = new IronCall();
            Check.feed(x, "loud 3".substring(0, 6 - n));
            due(x.feed(bytes[n - 1], n), 6);
            due(x.text(), 1);
            due(x.cart(3), 3);
        }
    }

    static void promise27_bytesAbove127() {
        // -1 has four bytes of 255; each is told as the FAULT, at its own place.
        for (int n = 1; n <= 4; n++) {
            IronCall x = Check.from("loud 3");
            Check.feed(x, "bed");
            due(x.feed(-1, n), 3 + n);
            due(x.text(), -1 - 3);
        }
        IronCall y = new IronCall();
        y.feed(LEAST, 4);
        due(y.text(), -1);
        IronCall z = new IronCall();
        due(z.feed('b' << 24 | 'e' << 16 | 'd' << 8 | 0x80, 4), 4);
        due(z.text(), -1 - 3);
    }

    // ---- promise 28: wipe

    static void promise28_emptyTape() {
        tells(Edge::fresh, 0, x -> x.wipe());
        tells(TextsEdgeTest::wiped, 0, x -> x.wipe());
    }

    static void promise28_fullTape() {
        IronCall x = full();
        due(x.wipe(), 120);
        due(x.count(5), 0);
        due(x.wipe(), 0);
        due(x.feed('b', 1), 1);
        due(x.status(-1), 0);
    }

    static void promise28_nothingElseChanges() {
        IronCall x = lived();
        due(x.wipe(), 16);
        same(x, wiped());
    }

    // ---- promise 29: text

    static void promise29_emptyTape() {
        tells(Edge::fresh, -1, x -> x.text());
    }

    static void promise29_fullTape() {
        IronCall x = full();
        due(x.text(), 1);
        due(x.cart(3), 5);
        due(x.count(5), 0);
        tells(TextsEdgeTest::wiped, -121, y -> Check.text(y, "loud 5;" + blanksOf(113)));
        tells(TextsEdgeTest::wiped, -120, y -> Check.text(y, "loud 5;" + blanksOf(112) + "#"));
    }

    static void promise29_itemByItem() {
        IronCall x = reads("loud 3; cart 4 back; loud 5; cart 6", 4);
        cartIs(x, 6, 1, 1, 5);
    }

    static void promise29_thingsGetTheNextNumbers() {
        IronCall x = wiped();
        due(Check.text(x, "gold at 5; loud 4; iron at 6"), 3);
        due(x.count(1), 7);
        thingIs(x, 5, 2, 5, 10, 0, 0, 0, 0);
        thingIs(x, 6, 1, 6, 10, 0, 0, 0, 0);
        thingIs(x, 4, 6, 4, 7, 0, 0, 0, 0);
        cartIs(x, 9, 0, 2, 4);
    }

    static void promise29_faultChangesNothing() {
        faulty("loud 3; cart 1; gold at 5; crown held; zzz", 39);
        tells(Edge::fresh, -1 - 39, x -> Check.text(x, "loud 3; cart 1; gold at 5; crown held; zzz"));
        Street withoutTape = () -> {
            IronCall x = lived();
            x.wipe();
            return x;
        };
        tells(withoutTape, -1 - 39, x -> Check.text(x, "loud 3; cart 1; gold at 5; crown held; zzz"));
    }

    static void promise29_faultLeavesTheImage() {
        IronCall x = lived();
        x.wipe();
        due(Check.text(x, "zzz"), -1);
        due(x.undo(), 3);
        due(x.text(), -1);
        due(x.undo(), 3);
    }

    static void promise29_faultIsNoFinding() {
        IronCall x = new IronCall();
        due(Check.text(x, "zzz"), -1);
        due(Check.text(x, "loud 3" + blanksOf(113) + "z"), -120);
        for (int which = -1; which <= 6; which++) {
            due(x.status(which), 0);
        }
    }

    static void promise29_tapeIsEmptyBehindIt() {
        IronCall x = new IronCall();
        due(Check.text(x, "loud 3"), 1);
        due(x.count(5), 0);
        due(x.text(), -1);
        due(Check.text(x, "loud 33"), -6);
        due(x.count(5), 0);
        due(Check.text(x, "loud 4"), 1);
        due(x.cart(3), 4);
    }

    static void promise29_ofAFaultyTextNothingComesBack() {
        IronCall x = new IronCall();
        due(Check.text(x, "crown at 5 heavy 7 pulled 9 held; loud 3; #"), -1 - 42);
        due(Check.text(x, "bed"), 1);
        due(x.count(1), 1);
        thingIs(x, 0, 4, 0, 10, 0, 0, 0, 0);
        cartIs(x, 0, 1, 1, 8);
    }
}
