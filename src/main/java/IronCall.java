/**
 * A street of cells, a cart that goes to and fro in it and calls, and the
 * things of metal that are pulled, move and are taken.
 */
public final class IronCall {
    // Findings: what an act answers is LOW less one of these.
    private static final int LOW = -1000001;
    private static final int BEYOND = 0;
    private static final int FULL = 1;
    private static final int WRONG_KIND = 2;
    private static final int NONE = 3;
    private static final int STATE = 4;
    private static final int MISSING = 5;
    private static final int SIZE = 6;
    private static final int FINDINGS = 7;

    private static final int THING = 0;
    private static final int IRON = 1;
    private static final int GOLD = 2;
    private static final int SWORD = 3;
    private static final int BED = 4;
    private static final int NEEDLE = 5;
    private static final int CROWN = 6;
    private static final int KINDS = 7;

    // What of() tells of a thing; the first seven are what change() changes.
    private static final int KIND = 0;
    private static final int CELL = 1;
    private static final int HEAVY = 2;
    private static final int PULLED = 3;
    private static final int HELD = 4;
    private static final int TAKEN = 5;
    private static final int MOVED = 6;
    private static final int FEELS = 7;
    private static final int STEPS = 8;
    private static final int LIKED = 9;
    private static final int RESTS = 10;
    private static final int FAR = 11;

    private static final int CART_CELL = 0;
    private static final int CART_WAY = 1;
    private static final int CART_PACE = 2;
    private static final int CART_LOUD = 3;

    private static final int CELLS = 16;
    private static final int LAST_CELL = 15;
    private static final int MOST_PACE = 3;
    private static final int MOST_LOUD = 20;
    private static final int MOST_HEAVY = 99;
    private static final int MOST_PULLED = 999;
    private static final int MOST_MOVED = 9999;
    private static final int MOST_THINGS = 8;
    private static final int MOST_CALLS = 99999;

    private static final int MOST_CALLS_AT_ONCE = 60;
    private static final int MOST_DRAWN_CALLS = 20;
    private static final int MOST_AHEAD = 100;
    private static final int MOST_SEARCHED = 200;
    private static final int MOST_PLANNED = 60;
    private static final int MOST_HELD_FAST = 20;
    private static final int MOST_FELT_ASKED = 99;
    private static final int MOST_DRAWN_CELLS = 15;

    private static final int SPOTS = 10;
    private static final int NOTHING = -1;
    private static final int SHEETS = 4;
    private static final int MOST_NUMBERS = 40;
    private static final int ANY = -1;
    private static final int MOST_BYTES = 120;

    // Tokens of a text, and the words that it may have; the first seven words
    // have the numbers of the kinds that they name.
    private static final int END = 0;
    private static final int WORD = 1;
    private static final int NUMBER = 2;
    private static final int SIGN = 3;
    private static final int STRANGE = 4;
    private static final int WORD_AT = 7;
    private static final int WORD_HEAVY = 8;
    private static final int WORD_PULLED = 9;
    private static final int WORD_HELD = 10;
    private static final int WORD_CART = 11;
    private static final int WORD_BACK = 12;
    private static final int WORD_PACE = 13;
    private static final int WORD_LOUD = 14;
    private static final int WORDS = 15;
    private static final int NO_WORD = -1;
    private static final int TOO_GREAT = 1000;

    private final Street street;
    // What-if calls run here, so that the street itself stays as it is.
    private final Street trial;
    private final Street kept;
    private boolean hasKept;
    private final Tape tape;
    private final Tokens tokens;
    private final Reader reader;
    private final Sheet[] sheets;
    private final int[] findings;

    public IronCall() {
        street = new Street();
        trial = new Street();
        kept = new Street();
        hasKept = false;
        tape = new Tape();
        tokens = new Tokens(tape);
        reader = new Reader(tokens, trial);
        sheets = new Sheet[SHEETS];
        for (int i = 0; i < sheets.length; i++) {
            sheets[i] = new Sheet();
        }
        findings = new int[FINDINGS];
    }

    // ---- cart, things

    public int set(int what, int v) {
        if (v < 0 || v > mostOfCart(what)) {
            return finding(BEYOND);
        }
        int was = street.cartTold(what);
        street.alterCart(what, v);
        return was;
    }

    public int cart(int what) {
        int told = street.cartTold(what);
        return told < 0 ? finding(BEYOND) : told;
    }

    public int thing(int kind, int cell) {
        if (!isKind(kind) || !isCell(cell)) {
            return finding(BEYOND);
        }
        int number = street.addThing(kind, cell);
        return number < 0 ? finding(FULL) : number;
    }

    public int of(int thing, int what) {
        int told = street.told(thing, what);
        return told < 0 ? finding(BEYOND) : told;
    }

    public int change(int thing, int what, int v) {
        if (!street.hasThing(thing) || v < leastOf(what) || v > mostOf(what)) {
            return finding(BEYOND);
        }
        int was = street.told(thing, what);
        street.alter(thing, what, v);
        return was;
    }

    public int who(int cell) {
        return isCell(cell) ? street.thingsAt(cell) : finding(BEYOND);
    }

    // ---- calls

    public int go(int n) {
        if (n < 1 || n > MOST_CALLS_AT_ONCE) {
            return finding(BEYOND);
        }
        if (street.callNumber + n > MOST_CALLS) {
            return finding(STATE);
        }
        street.callTimes(n);
        return street.thingsWith(TAKEN, 1);
    }

    public int now(int what) {
        switch (what) {
            case 0: return street.callNumber;
            case 1: return street.thingsWith(TAKEN, 1);
            case 2: return street.sumOf(PULLED);
            case 3: return street.sumOf(MOVED);
            case 4: return street.takenHeavy();
            case 5: return street.mostFeeling();
            case 6: return street.cellsInUse();
            case 7: return street.thingsWith(HELD, 1);
            default: return finding(BEYOND);
        }
    }

    // ---- what will be (nothing changes)

    public int ahead(int thing, int what, int n) {
        boolean isAsked = what == CELL || what == PULLED || what == TAKEN || what == MOVED;
        if (!street.hasThing(thing) || !isAsked || n < 0 || n > MOST_AHEAD) {
            return finding(BEYOND);
        }
        startTrial();
        trial.callTimes(n);
        return trial.told(thing, what);
    }

    public int where(int n) {
        if (n < 0 || n > MOST_AHEAD) {
            return finding(BEYOND);
        }
        startTrial();
        trial.callTimes(n);
        return trial.cell;
    }

    public int taken(int thing) {
        if (!street.hasThing(thing)) {
            return finding(BEYOND);
        }
        return fewestCalls(thing, TAKEN, 1, 1);
    }

    public int when(int thing, int cell) {
        if (!street.hasThing(thing) || !isCell(cell)) {
            return finding(BEYOND);
        }
        return fewestCalls(thing, CELL, cell, cell);
    }

    public int meet(int a, int b) {
        if (!street.hasThing(a) || !street.hasThing(b) || a == b) {
            return finding(BEYOND);
        }
        startTrial();
        for (int n = 0; n <= MOST_SEARCHED; n++) {
            if (trial.told(a, CELL) == trial.told(b, CELL)) {
                return n;
            }
            trial.callTimes(1);
        }
        return finding(NONE);
    }

    public int strained(int thing, int v) {
        if (!street.hasThing(thing) || v < 0 || v > MOST_PULLED) {
            return finding(BEYOND);
        }
        return fewestCalls(thing, PULLED, v, MOST_PULLED);
    }

    // ---- how to call

    public int loudFor(int thing, int n) {
        if (!street.hasThing(thing) || !isPlanned(n)) {
            return finding(BEYOND);
        }
        for (int loud = 0; loud <= MOST_LOUD; loud++) {
            startTrial();
            trial.alterCart(CART_LOUD, loud);
            trial.callTimes(n);
            if (trial.told(thing, TAKEN) == 1) {
                return loud;
            }
        }
        return finding(NONE);
    }

    public int startFor(int n) {
        if (!isPlanned(n)) {
            return finding(BEYOND);
        }
        int best = 0;
        int most = -1;
        for (int cell = 0; cell < CELLS; cell++) {
            startTrial();
            trial.alterCart(CART_CELL, cell);
            trial.callTimes(n);
            int heavy = trial.takenHeavy();
            if (heavy > most) {
                most = heavy;
                best = cell;
            }
        }
        return best;
    }

    public int layFor(int thing, int n) {
        return furthestBy(thing, CELL, n);
    }

    public int kindFor(int thing, int n) {
        return furthestBy(thing, KIND, n);
    }

    public int heavyFor(int thing, int n) {
        if (!street.hasThing(thing) || !isPlanned(n)) {
            return finding(BEYOND);
        }
        for (int heavy = 1; heavy <= MOST_HEAVY; heavy++) {
            startTrial();
            trial.alter(thing, HEAVY, heavy);
            trial.callTimes(n);
            if (trial.told(thing, TAKEN) == 0) {
                return heavy;
            }
        }
        return finding(NONE);
    }

    public int holdFast(int n) {
        if (n < 0 || n > MOST_HELD_FAST) {
            return finding(BEYOND);
        }
        int sets = 1 << street.made;
        for (int size = 0; size <= street.made; size++) {
            for (int held = 0; held < sets; held++) {
                if (Integer.bitCount(held) == size && savesAll(held, n)) {
                    return held;
                }
            }
        }
        return finding(NONE);
    }

    // ---- by told ways

    public int fits(int s, int thing) {
        return choicesAsTold(s, thing, CELL, PULLED);
    }

    public int kinds(int s, int thing) {
        return choicesAsTold(s, thing, KIND, CELL);
    }

    // ---- calls by draws

    public int calls(int n) {
        if (n < 1 || n > MOST_DRAWN_CALLS) {
            return finding(BEYOND);
        }
        if (street.callNumber + n > MOST_CALLS) {
            return finding(STATE);
        }
        for (int i = 0; i < n; i++) {
            street.alterCart(CART_CELL, street.draw() % CELLS);
            street.alterCart(CART_LOUD, street.draw() % (MOST_LOUD + 1));
            street.callTimes(1);
        }
        return street.thingsWith(TAKEN, 1);
    }

    public long odds(int thing, int v, int n, int what) {
        if (!street.hasThing(thing) || v < 0 || v > MOST_FELT_ASKED
                || n < 0 || n > MOST_DRAWN_CELLS || what < 0 || what > 1) {
            return finding(BEYOND);
        }
        int above = street.cellsToFeel(thing, v);
        int below = CELLS;
        // 16 has no divisor but 2, so halving alone brings the lowest terms,
        // and what is lowest stays so in a power.
        while (below > 1 && above % 2 == 0) {
            above /= 2;
            below /= 2;
        }
        return power(what == 0 ? above : below, n);
    }

    public int seed(int v) {
        int was = street.z;
        street.z = v;
        return was;
    }

    // ---- texts

    public int feed(int bytes, int n) {
        if (n < 1 || n > 4) {
            return finding(BEYOND);
        }
        if (tape.size + n > MOST_BYTES) {
            return finding(FULL);
        }
        for (int i = n - 1; i >= 0; i--) {
            tape.append((bytes >> (8 * i)) & 255);
        }
        return tape.size;
    }

    public int wipe() {
        int had = tape.size;
        tape.size = 0;
        return had;
    }

    public int text() {
        startTrial();
        tokens.cut();
        int items = reader.readItems();
        tape.size = 0;
        if (items >= 0) {
            street.match(trial);
        }
        return items;
    }

    // ---- spots, sheets

    public int hold(int spot, int thing) {
        boolean isHoldable = thing == NOTHING || street.hasThing(thing);
        if (!street.hasSpot(spot) || !isHoldable) {
            return finding(BEYOND);
        }
        street.putSpot(spot, thing);
        return 1;
    }

    public int as(int spot, int kind) {
        if (!street.hasSpot(spot) || !isKind(kind)) {
            return finding(BEYOND);
        }
        int number = street.spotTold(spot);
        if (number == NOTHING) {
            return finding(MISSING);
        }
        return street.isOfKind(number, kind) ? number : finding(WRONG_KIND);
    }

    public int sheet(int s, int bits, int n) {
        Sheet sheet = sheetAt(s);
        if (sheet == null || (bits != 0 && bits != 8 && bits != 16 && bits != 32)) {
            return finding(BEYOND);
        }
        if (n < 0) {
            return finding(SIZE);
        }
        if (n > MOST_NUMBERS) {
            return finding(BEYOND);
        }
        sheet.renew(bits, n);
        return sheet.size;
    }

    public int write(int s, int i, int v) {
        Sheet sheet = sheetAt(s);
        if (sheet == null) {
            return finding(BEYOND);
        }
        if (sheet.isMissing()) {
            return finding(MISSING);
        }
        if (i < 0 || i >= sheet.size) {
            return finding(BEYOND);
        }
        sheet.put(i, v);
        return 1;
    }

    public int copy(int s, int from, int t, int to, int n) {
        Sheet source = sheetAt(s);
        Sheet target = sheetAt(t);
        if (source == null || target == null) {
            return finding(BEYOND);
        }
        if (source.isMissing() || target.isMissing()) {
            return finding(MISSING);
        }
        if (source.bits != target.bits) {
            return finding(WRONG_KIND);
        }
        if (!source.hasRun(from, n) || !target.hasRun(to, n)) {
            return finding(BEYOND);
        }
        System.arraycopy(source.numbers, from, target.numbers, to, n);
        return n;
    }

    public int load(int s) {
        Sheet sheet = sheetAt(s);
        if (sheet == null) {
            return finding(BEYOND);
        }
        if (sheet.isMissing()) {
            return finding(MISSING);
        }
        for (int i = 0; i < sheet.size; i++) {
            int heavy = sheet.told(i);
            if (!street.hasThing(i) || heavy < 1 || heavy > MOST_HEAVY) {
                return i;
            }
            street.alter(i, HEAVY, heavy);
        }
        return sheet.size;
    }

    public int judge(int s) {
        Sheet sheet = sheetAt(s);
        if (sheet == null) {
            return finding(BEYOND);
        }
        if (sheet.isMissing()) {
            return finding(MISSING);
        }
        for (int i = 0; i < sheet.size; i++) {
            if (!street.hasThing(i) || street.told(i, CELL) != sheet.told(i)) {
                return 1 + i;
            }
        }
        return 0;
    }

    // ---- images

    public int image() {
        kept.match(street);
        hasKept = true;
        return 1;
    }

    public int undo() {
        if (!hasKept) {
            return finding(NONE);
        }
        street.match(kept);
        return street.callNumber;
    }

    public int tear() {
        int had = hasKept ? 1 : 0;
        hasKept = false;
        return had;
    }

    public int count(int what) {
        switch (what) {
            case 0: return street.callNumber;
            case 1: return street.made;
            case 2: return street.sumOf(TAKEN);
            case 3: return street.sumOf(PULLED);
            case 4: return street.sumOf(MOVED);
            case 5: return tape.size;
            case 6: return street.z;
            case 7: return street.spotsInUse();
            default: return finding(BEYOND);
        }
    }

    public int status(int which) {
        if (which < -1 || which >= findings.length) {
            return finding(BEYOND);
        }
        if (which >= 0) {
            return findings[which];
        }
        int all = 0;
        for (int number : findings) {
            all += number;
        }
        return all;
    }

    // ---- helpers of the calls above

    /** Counted here, where an act tells it: z may look like a finding and is none. */
    private int finding(int which) {
        if (which >= 0 && which < findings.length) {
            findings[which]++;
        }
        return LOW - which;
    }

    private Sheet sheetAt(int s) {
        return s >= 0 && s < sheets.length ? sheets[s] : null;
    }

    private void startTrial() {
        trial.match(street);
    }

    /** The fewest calls behind which a thing's trait lies from least to most. */
    private int fewestCalls(int thing, int what, int least, int most) {
        startTrial();
        for (int n = 0; n <= MOST_SEARCHED; n++) {
            int told = trial.told(thing, what);
            if (told >= least && told <= most) {
                return n;
            }
            trial.callTimes(1);
        }
        return finding(NONE);
    }

    /** The least value of a trait with which the thing moved most behind n calls. */
    private int furthestBy(int thing, int what, int n) {
        if (!street.hasThing(thing) || !isPlanned(n)) {
            return finding(BEYOND);
        }
        int best = 0;
        int furthest = -1;
        for (int v = 0; v <= mostOf(what); v++) {
            startTrial();
            trial.alter(thing, what, v);
            trial.callTimes(n);
            int moved = trial.told(thing, MOVED);
            if (moved > furthest) {
                furthest = moved;
                best = v;
            }
        }
        return best;
    }

    private boolean savesAll(int held, int n) {
        startTrial();
        trial.holdThings(held);
        trial.callTimes(n);
        return trial.sumOf(TAKEN) <= street.sumOf(TAKEN);
    }

    /** The values of one trait, as a set, with which another goes as a sheet tells. */
    private int choicesAsTold(int s, int thing, int chosen, int watched) {
        Sheet sheet = sheetAt(s);
        if (sheet == null) {
            return finding(BEYOND);
        }
        if (sheet.isMissing()) {
            return finding(MISSING);
        }
        if (!street.hasThing(thing)) {
            return finding(BEYOND);
        }
        int choices = 0;
        for (int v = 0; v <= mostOf(chosen); v++) {
            startTrial();
            trial.alter(thing, chosen, v);
            if (trialGoesAs(sheet, thing, watched)) {
                choices |= 1 << v;
            }
        }
        return choices;
    }

    private boolean trialGoesAs(Sheet sheet, int thing, int watched) {
        if (sheet == null) {
            return false;
        }
        for (int i = 0; i < sheet.size; i++) {
            int due = sheet.told(i);
            if (due != ANY && due != trial.told(thing, watched)) {
                return false;
            }
            trial.callTimes(1);
        }
        return true;
    }

    private static boolean isKind(int kind) {
        return kind >= 0 && kind < KINDS;
    }

    private static boolean isCell(int cell) {
        return cell >= 0 && cell < CELLS;
    }

    private static boolean isPlanned(int n) {
        return n >= 0 && n <= MOST_PLANNED;
    }

    /** Below 0 for what the cart has not, so that no value fits it. */
    private static int mostOfCart(int what) {
        switch (what) {
            case CART_CELL: return LAST_CELL;
            case CART_WAY: return 1;
            case CART_PACE: return MOST_PACE;
            case CART_LOUD: return MOST_LOUD;
            default: return -1;
        }
    }

    private static int leastOf(int what) {
        return what == HEAVY ? 1 : 0;
    }

    /** Below 0 for what can't be changed, so that no value fits it. */
    private static int mostOf(int what) {
        switch (what) {
            case KIND: return KINDS - 1;
            case CELL: return LAST_CELL;
            case HEAVY: return MOST_HEAVY;
            case PULLED: return MOST_PULLED;
            case HELD: return 1;
            case TAKEN: return 1;
            case MOVED: return MOST_MOVED;
            default: return -1;
        }
    }

    private static long power(int base, int n) {
        long product = 1;
        for (int i = 0; i < n; i++) {
            product *= base;
        }
        return product;
    }

    /** One thing; a street has eight from the start and counts how many are made. */
    private static final class Thing {
        final int number;
        int kind;
        int cell;
        int heavy;
        int pulled;
        int moved;
        boolean isHeld;
        boolean isTaken;

        Thing(int number) {
            this.number = number;
        }

        void renew(int newKind, int newCell) {
            kind = newKind;
            cell = newCell;
            heavy = 10;
            pulled = 0;
            moved = 0;
            isHeld = false;
            isTaken = false;
        }

        void match(Thing other) {
            if (other == null) {
                return;
            }
            kind = other.kind;
            cell = other.cell;
            heavy = other.heavy;
            pulled = other.pulled;
            moved = other.moved;
            isHeld = other.isHeld;
            isTaken = other.isTaken;
        }

        /** -1 for what a thing alone can't tell. */
        int told(int what) {
            switch (what) {
                case KIND: return kind;
                case CELL: return cell;
                case HEAVY: return heavy;
                case PULLED: return pulled;
                case HELD: return isHeld ? 1 : 0;
                case TAKEN: return isTaken ? 1 : 0;
                case MOVED: return moved;
                case STEPS: return steps();
                case LIKED: return isLiked() ? 1 : 0;
                case RESTS: return rests();
                default: return -1;
            }
        }

        void alter(int what, int v) {
            switch (what) {
                case KIND: kind = v; break;
                case CELL: cell = v; break;
                case HEAVY: heavy = v; break;
                case PULLED: pulled = v; break;
                case HELD: isHeld = v == 1; break;
                case TAKEN: isTaken = v == 1; break;
                case MOVED: moved = v; break;
                default: break;
            }
        }

        /** Company, how many others are there and not taken, counts for a crown alone. */
        int feels(int loud, int far, int company) {
            int asThing = Math.max(loud - far, 0);
            int asSword = 2 * asThing + (far <= 3 ? 3 : 0);
            int asGold = asThing / 3;
            switch (kind) {
                case IRON: return 2 * asThing;
                case GOLD: return asGold;
                case SWORD: return asSword;
                case BED: return Math.max(asSword - 4, 0);
                case NEEDLE: return far % 2 == 0 ? loud : asThing;
                case CROWN: return asGold + company;
                default: return asThing;
            }
        }

        int steps() {
            switch (kind) {
                case SWORD: return 2;
                case NEEDLE: return heavy <= 5 ? 3 : 1;
                default: return 1;
            }
        }

        boolean isLiked() {
            switch (kind) {
                case IRON: return heavy <= 20;
                case SWORD: return heavy <= 20 || moved >= 5;
                case BED: return false;
                case NEEDLE: return false;
                case CROWN: return pulled >= 5;
                default: return true;
            }
        }

        int rests() {
            switch (kind) {
                case THING: return 1;
                case GOLD: return 2;
                case BED: return 2;
                case CROWN: return 4;
                default: return 0;
            }
        }

        boolean isOfKind(int wanted) {
            int k = kind;
            for (int level = 0; level < KINDS; level++) {
                if (k == wanted) {
                    return true;
                }
                k = kindAbove(k);
            }
            return false;
        }

        static int kindAbove(int kind) {
            switch (kind) {
                case SWORD: return IRON;
                case BED: return SWORD;
                case CROWN: return GOLD;
                default: return THING;
            }
        }

        /** It is pulled by what it feels and moves if that is enough to move it. */
        void strain(int felt, int cartCell) {
            pulled = Math.min(pulled + felt, MOST_PULLED);
            if (isHeld || pulled < heavy) {
                return;
            }
            pulled -= heavy;
            int by = Math.min(steps(), Math.abs(cartCell - cell));
            cell += cartCell > cell ? by : -by;
            moved = Math.min(moved + by, MOST_MOVED);
        }

        void rest() {
            pulled = Math.max(pulled - rests(), 0);
        }
    }

    /** All that an image keeps: the cart, the things, the calls, z and the spots. */
    private static final class Street {
        int cell;
        int way;
        int pace;
        int loud;
        int callNumber;
        int z;
        int made;
        final Thing[] things;
        final int[] spots;

        Street() {
            cell = 0;
            way = 1;
            pace = 1;
            loud = 8;
            callNumber = 0;
            z = 1;
            made = 0;
            things = new Thing[MOST_THINGS];
            for (int i = 0; i < things.length; i++) {
                things[i] = new Thing(i);
            }
            spots = new int[SPOTS];
            for (int i = 0; i < spots.length; i++) {
                spots[i] = NOTHING;
            }
        }

        void match(Street other) {
            if (other == null) {
                return;
            }
            cell = other.cell;
            way = other.way;
            pace = other.pace;
            loud = other.loud;
            callNumber = other.callNumber;
            z = other.z;
            made = other.made;
            for (int i = 0; i < made; i++) {
                Thing t = thingAt(i);
                if (t != null) {
                    t.match(other.thingAt(i));
                }
            }
            for (int i = 0; i < SPOTS; i++) {
                putSpot(i, other.spotTold(i));
            }
        }

        // -- the cart

        int cartTold(int what) {
            switch (what) {
                case CART_CELL: return cell;
                case CART_WAY: return way;
                case CART_PACE: return pace;
                case CART_LOUD: return loud;
                default: return -1;
            }
        }

        void alterCart(int what, int v) {
            switch (what) {
                case CART_CELL: cell = v; break;
                case CART_WAY: way = v; break;
                case CART_PACE: pace = v; break;
                case CART_LOUD: loud = v; break;
                default: break;
            }
        }

        // -- the things

        boolean hasThing(int number) {
            return number >= 0 && number < made;
        }

        Thing thingAt(int number) {
            return number >= 0 && number < made && number < things.length ? things[number] : null;
        }

        /** The number of the new thing, -1 if there is no room for it. */
        int addThing(int kind, int at) {
            if (made >= things.length) {
                return -1;
            }
            made++;
            Thing t = thingAt(made - 1);
            if (t != null) {
                t.renew(kind, at);
            }
            return made - 1;
        }

        /** -1 if there is no such thing, or nothing such to tell. */
        int told(int number, int what) {
            Thing t = thingAt(number);
            if (t == null) {
                return -1;
            }
            switch (what) {
                case FEELS: return feltBy(t, cell);
                case FAR: return Math.abs(t.cell - cell);
                default: return t.told(what);
            }
        }

        void alter(int number, int what, int v) {
            Thing t = thingAt(number);
            if (t != null) {
                t.alter(what, v);
            }
        }

        boolean isOfKind(int number, int kind) {
            Thing t = thingAt(number);
            return t != null && t.isOfKind(kind);
        }

        /** What a thing feels of a call from a cell. */
        int feltBy(Thing t, int from) {
            if (t == null) {
                return 0;
            }
            int far = Math.abs(t.cell - from);
            if (t.kind != CROWN) {
                return t.feels(loud, far, 0);
            }
            int others = thingsAt(t.cell) & ~(1 << t.number);
            return t.feels(loud, far, Integer.bitCount(others));
        }

        /** From how many cells a thing would feel so much or more. */
        int cellsToFeel(int number, int least) {
            int cells = 0;
            for (int from = 0; from < CELLS; from++) {
                if (feltBy(thingAt(number), from) >= least) {
                    cells++;
                }
            }
            return cells;
        }

        void holdThings(int set) {
            for (int i = 0; i < made; i++) {
                if ((set >> i & 1) == 1) {
                    alter(i, HELD, 1);
                }
            }
        }

        // -- all things together

        /** Those at a cell that aren't taken. */
        int thingsAt(int at) {
            int set = 0;
            for (Thing t : things) {
                if (t != null && t.number < made && !t.isTaken && t.cell == at) {
                    set |= 1 << t.number;
                }
            }
            return set;
        }

        int thingsWith(int what, int v) {
            int set = 0;
            for (Thing t : things) {
                if (t != null && t.number < made && t.told(what) == v) {
                    set |= 1 << t.number;
                }
            }
            return set;
        }

        int cellsInUse() {
            int set = 0;
            for (int at = 0; at < CELLS; at++) {
                if (thingsAt(at) != 0) {
                    set |= 1 << at;
                }
            }
            return set;
        }

        int sumOf(int what) {
            int sum = 0;
            for (Thing t : things) {
                if (t != null && t.number < made) {
                    sum += t.told(what);
                }
            }
            return sum;
        }

        int takenHeavy() {
            int sum = 0;
            for (Thing t : things) {
                if (t != null && t.number < made && t.isTaken) {
                    sum += t.heavy;
                }
            }
            return sum;
        }

        int mostFeeling() {
            int best = NOTHING;
            int most = -1;
            for (Thing t : things) {
                if (t != null && t.number < made && !t.isTaken && feltBy(t, cell) > most) {
                    best = t.number;
                    most = feltBy(t, cell);
                }
            }
            return best;
        }

        // -- calls

        void callTimes(int n) {
            for (int i = 0; i < n; i++) {
                rollCart();
                pullThings();
                takeThings();
                restThings();
                callNumber = Math.min(callNumber + 1, MOST_CALLS);
            }
        }

        void rollCart() {
            turnAtEnds();
            for (int i = 0; i < pace; i++) {
                cell += way == 1 ? 1 : -1;
                turnAtEnds();
            }
        }

        void turnAtEnds() {
            if (cell == 0) {
                way = 1;
            } else if (cell == LAST_CELL) {
                way = 0;
            }
        }

        void pullThings() {
            for (Thing t : things) {
                if (t != null && t.number < made && !t.isTaken) {
                    t.strain(feltBy(t, cell), cell);
                }
            }
        }

        void takeThings() {
            for (Thing t : things) {
                if (t != null && t.number < made && !t.isTaken && t.cell == cell) {
                    t.isTaken = t.isLiked() && !t.isHeld;
                }
            }
        }

        void restThings() {
            for (Thing t : things) {
                if (t != null && t.number < made && !t.isTaken) {
                    t.rest();
                }
            }
        }

        int draw() {
            z = z * 1103515245 + 12345;
            return z >>> 8;
        }

        // -- spots

        boolean hasSpot(int spot) {
            return spot >= 0 && spot < spots.length;
        }

        int spotTold(int spot) {
            return spot >= 0 && spot < spots.length ? spots[spot] : NOTHING;
        }

        void putSpot(int spot, int number) {
            if (spot >= 0 && spot < spots.length) {
                spots[spot] = number;
            }
        }

        int spotsInUse() {
            int used = 0;
            for (int number : spots) {
                if (number != NOTHING) {
                    used++;
                }
            }
            return used;
        }
    }

    /** A row of numbers of some bits each; of no bits when it is missing. */
    private static final class Sheet {
        int bits;
        int size;
        final int[] numbers;

        Sheet() {
            bits = 0;
            size = 0;
            numbers = new int[MOST_NUMBERS];
        }

        boolean isMissing() {
            return bits == 0;
        }

        void renew(int newBits, int n) {
            bits = newBits;
            size = newBits == 0 ? 0 : n;
            for (int i = 0; i < numbers.length; i++) {
                numbers[i] = 0;
            }
        }

        int told(int i) {
            return i >= 0 && i < numbers.length ? numbers[i] : 0;
        }

        void put(int i, int v) {
            if (i >= 0 && i < numbers.length) {
                numbers[i] = bits == 8 ? (byte) v : bits == 16 ? (short) v : v;
            }
        }

        /** The differences can't overflow, as sums of told numbers could. */
        boolean hasRun(int from, int n) {
            return from >= 0 && n >= 0 && from <= size && n <= size - from;
        }
    }

    /** The bytes fed so far. */
    private static final class Tape {
        int size;
        final int[] bytes;

        Tape() {
            size = 0;
            bytes = new int[MOST_BYTES];
        }

        void append(int b) {
            if (size >= 0 && size < bytes.length) {
                bytes[size] = b;
                size++;
            }
        }

        /** -1 where there is none: no byte of any token. */
        int byteAt(int place) {
            return place >= 0 && place < size && place < bytes.length ? bytes[place] : -1;
        }

        boolean hasLetter(int place) {
            int b = byteAt(place);
            return b >= 'a' && b <= 'z';
        }

        boolean hasDigit(int place) {
            int b = byteAt(place);
            return b >= '0' && b <= '9';
        }

        boolean spells(int from, int to, String word) {
            if (word == null || to - from != word.length()) {
                return false;
            }
            for (int i = 0; i < word.length(); i++) {
                if (byteAt(from + i) != word.charAt(i)) {
                    return false;
                }
            }
            return true;
        }
    }

    /** The tape's tokens; a strange byte is one too, and the END is the last. */
    private static final class Tokens {
        final Tape tape;
        int size;
        final int[] sorts;
        final int[] places;
        final int[] values;

        Tokens(Tape tape) {
            this.tape = tape;
            size = 0;
            sorts = new int[MOST_BYTES + 1];
            places = new int[MOST_BYTES + 1];
            values = new int[MOST_BYTES + 1];
        }

        /** Cuts the tape anew into tokens. */
        void cut() {
            size = 0;
            int end = 0;
            for (int place = 0; place < tape.size; place++) {
                if (place >= end && tape.byteAt(place) != ' ') {
                    end = cutToken(place);
                }
            }
            append(END, tape.size, 0);
        }

        /** Where the token that begins there ends. */
        int cutToken(int from) {
            if (tape.hasLetter(from)) {
                return cutWord(from);
            }
            if (tape.hasDigit(from)) {
                return cutNumber(from);
            }
            append(tape.byteAt(from) == ';' ? SIGN : STRANGE, from, 0);
            return from + 1;
        }

        int cutWord(int from) {
            int to = from + 1;
            while (to < tape.size && tape.hasLetter(to)) {
                to++;
            }
            append(WORD, from, wordSpelt(from, to));
            return to;
        }

        int wordSpelt(int from, int to) {
            for (int w = 0; w < WORDS; w++) {
                if (tape.spells(from, to, nameOf(w))) {
                    return w;
                }
            }
            return NO_WORD;
        }

        int cutNumber(int from) {
            int to = from;
            int value = 0;
            while (to < tape.size && tape.hasDigit(to)) {
                value = Math.min(value * 10 + tape.byteAt(to) - '0', TOO_GREAT);
                to++;
            }
            append(NUMBER, from, value);
            return to;
        }

        void append(int sort, int place, int value) {
            if (size >= 0 && size < sorts.length && size < places.length && size < values.length) {
                sorts[size] = sort;
                places[size] = place;
                values[size] = value;
                size++;
            }
        }

        int sortAt(int i) {
            return i >= 0 && i < size && i < sorts.length ? sorts[i] : END;
        }

        int placeAt(int i) {
            return i >= 0 && i < size && i < places.length ? places[i] : tape.size;
        }

        int valueAt(int i) {
            return i >= 0 && i < size && i < values.length ? values[i] : 0;
        }

        static String nameOf(int word) {
            switch (word) {
                case THING: return "thing";
                case IRON: return "iron";
                case GOLD: return "gold";
                case SWORD: return "sword";
                case BED: return "bed";
                case NEEDLE: return "needle";
                case CROWN: return "crown";
                case WORD_AT: return "at";
                case WORD_HEAVY: return "heavy";
                case WORD_PULLED: return "pulled";
                case WORD_HELD: return "held";
                case WORD_CART: return "cart";
                case WORD_BACK: return "back";
                case WORD_PACE: return "pace";
                case WORD_LOUD: return "loud";
                default: return "";
            }
        }
    }

    /** Reads items from the tokens and lets each be so in a street at once. */
    private static final class Reader {
        final Tokens tokens;
        final Street street;
        int next;
        boolean isFaulty;

        Reader(Tokens tokens, Street street) {
            this.tokens = tokens;
            this.street = street;
            next = 0;
            isFaulty = false;
        }

        /** How many items, or -1 less the fault; with a fault the street is of no more use. */
        int readItems() {
            next = 0;
            isFaulty = false;
            for (int items = 1; items <= MOST_BYTES; items++) {
                readItem();
                if (!isFaulty && tokens.sortAt(next) == END) {
                    return items;
                }
                if (isFaulty || tokens.sortAt(next) != SIGN) {
                    break;
                }
                next++;
            }
            return -1 - tokens.placeAt(next);
        }

        void readItem() {
            int word = tokens.valueAt(next);
            if (tokens.sortAt(next) == WORD && isKind(word)) {
                readThing(word);
            } else if (passWord(WORD_CART)) {
                readCart();
            } else if (passWord(WORD_LOUD)) {
                street.alterCart(CART_LOUD, passNumber(0, MOST_LOUD));
            } else {
                isFaulty = true;
            }
        }

        void readThing(int kind) {
            int number = street.addThing(kind, 0);
            if (number < 0) {
                isFaulty = true;
                return;
            }
            next++;
            readTrait(WORD_AT, number, CELL);
            readTrait(WORD_HEAVY, number, HEAVY);
            readTrait(WORD_PULLED, number, PULLED);
            if (passWord(WORD_HELD)) {
                street.alter(number, HELD, 1);
            }
        }

        void readTrait(int word, int number, int what) {
            if (passWord(word)) {
                street.alter(number, what, passNumber(leastOf(what), mostOf(what)));
            }
        }

        void readCart() {
            street.alterCart(CART_CELL, passNumber(0, LAST_CELL));
            street.alterCart(CART_WAY, passWord(WORD_BACK) ? 0 : 1);
            if (passWord(WORD_PACE)) {
                street.alterCart(CART_PACE, passNumber(0, MOST_PACE));
            }
        }

        /** Whether that word stands next; behind a fault nothing is passed any more. */
        boolean passWord(int word) {
            boolean stands = !isFaulty && tokens.sortAt(next) == WORD && tokens.valueAt(next) == word;
            if (stands) {
                next++;
            }
            return stands;
        }

        /** The number that stands next; any other token is the fault. */
        int passNumber(int least, int most) {
            int value = tokens.valueAt(next);
            if (isFaulty || tokens.sortAt(next) != NUMBER || value < least || value > most) {
                isFaulty = true;
                return least;
            }
            next++;
            return value;
        }
    }
}
