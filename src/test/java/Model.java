import java.util.ArrayList;
import java.util.List;
import java.util.function.IntPredicate;
import java.util.function.Predicate;
import java.util.regex.Matcher;
import java.util.regex.Pattern;

/**
 * The document told a second time, by other means (kinds as classes, copies
 * without care for their number, texts by patterns), for WildTest to compare.
 */
public final class Model {
    private static final int LOW = -1000001;
    private static final int CALLS_MOST = 99999;

    /** Thrown where an act answers a finding. */
    private static final class Finding extends RuntimeException {
        private static final long serialVersionUID = 1L;
        final int which;

        Finding(int which) {
            super(null, null, false, false);
            this.which = which;
        }
    }

    private static class Kind {
        int feels(State s, Item t, int from) {
            return Math.max(0, s.cart[3] - far(t, from));
        }

        int steps(Item t) {
            return 1;
        }

        boolean liked(Item t) {
            return true;
        }

        int rests() {
            return 1;
        }

        static int far(Item t, int from) {
            return Math.abs(t.trait[1] - from);
        }
    }

    private static class Iron extends Kind {
        @Override int feels(State s, Item t, int from) {
            return 2 * super.feels(s, t, from);
        }

        @Override boolean liked(Item t) {
            return t.trait[2] <= 20;
        }

        @Override int rests() {
            return 0;
        }
    }

    private static class Gold extends Kind {
        @Override int feels(State s, Item t, int from) {
            return super.feels(s, t, from) / 3;
        }

        @Override int rests() {
            return super.rests() + 1;
        }
    }

    private static class Sword extends Iron {
        @Override int feels(State s, Item t, int from) {
            return super.feels(s, t, from) + (far(t, from) <= 3 ? 3 : 0);
        }

        @Override int steps(Item t) {
            return super.steps(t) + 1;
        }

        @Override boolean liked(Item t) {
            return super.liked(t) || t.trait[6] >= 5;
        }
    }

    private static final class Bed extends Sword {
        @Override int feels(State s, Item t, int from) {
            return Math.max(0, super.feels(s, t, from) - 4);
        }

        @Override int steps(Item t) {
            return 1;
        }

        @Override boolean liked(Item t) {
            return false;
        }

        @Override int rests() {
            return super.rests() + 2;
        }
    }

    private static final class Needle extends Kind {
        @Override int feels(State s, Item t, int from) {
            return far(t, from) % 2 == 0 ? s.cart[3] : super.feels(s, t, from);
        }

        @Override int steps(Item t) {
            return t.trait[2] <= 5 ? 3 : 1;
        }

        @Override boolean liked(Item t) {
            return false;
        }

        @Override int rests() {
            return 0;
        }
    }

    private static final class Crown extends Gold {
        @Override int feels(State s, Item t, int from) {
            int company = 0;
            for (Item o : s.items) {
                company += o != t && o.trait[5] == 0 && o.trait[1] == t.trait[1] ? 1 : 0;
            }
            return super.feels(s, t, from) + company;
        }

        @Override boolean liked(Item t) {
            return super.liked(t) && t.trait[3] >= 5;
        }

        @Override int rests() {
            return 2 * super.rests();
        }
    }

    private static final Kind[] KINDS = {new Kind(), new Iron(), new Gold(), new Sword(), new Bed(), new Needle(),
        new Crown()};

    /** KIND, CELL, HEAVY, PULLED, HELD, TAKEN, MOVED. */
    private static final class Item {
        final int[] trait;

        Item(int... trait) {
            this.trait = trait;
        }

        Kind kind() {
            return KINDS[trait[0]];
        }
    }

    private static final class State {
        final int[] cart = {0, 1, 1, 8};
        final List<Item> items = new ArrayList<>();
        final int[] spots = {-1, -1, -1, -1, -1, -1, -1, -1, -1, -1};
        int call = 0;
        int z = 1;

        State copy() {
            State s = new State();
            System.arraycopy(cart, 0, s.cart, 0, 4);
            System.arraycopy(spots, 0, s.spots, 0, 10);
            for (Item t : items) {
                s.items.add(new Item(t.trait.clone()));
            }
            s.call = call;
            s.z = z;
            return s;
        }

        State behind(int n) {
            State s = copy();
            for (int i = 0; i < n; i++) {
                s.call();
            }
            return s;
        }

        State with(int thing, int what, int v) {
            State s = copy();
            s.items.get(thing).trait[what] = v;
            return s;
        }

        State withCart(int what, int v) {
            State s = copy();
            s.cart[what] = v;
            return s;
        }

        void call() {
            turn();
            for (int i = 0; i < cart[2]; i++) {
                cart[0] += 2 * cart[1] - 1;
                turn();
            }
            for (Item t : items) {
                if (t.trait[5] == 0) {
                    pull(t);
                }
            }
            for (Item t : items) {
                if (t.trait[5] == 0 && t.trait[1] == cart[0] && t.kind().liked(t) && t.trait[4] == 0) {
                    t.trait[5] = 1;
                }
            }
            for (Item t : items) {
                if (t.trait[5] == 0) {
                    t.trait[3] = Math.max(0, t.trait[3] - t.kind().rests());
                }
            }
            call = Math.min(CALLS_MOST, call + 1);
        }

        void turn() {
            cart[1] = cart[0] == 0 ? 1 : cart[0] == 15 ? 0 : cart[1];
        }

        void pull(Item t) {
            t.trait[3] = Math.min(999, t.trait[3] + t.kind().feels(this, t, cart[0]));
            if (t.trait[3] >= t.trait[2] && t.trait[4] == 0) {
                t.trait[3] -= t.trait[2];
                for (int i = t.kind().steps(t); i > 0 && t.trait[1] != cart[0]; i--) {
                    t.trait[1] += Integer.signum(cart[0] - t.trait[1]);
                    t.trait[6] = Math.min(9999, t.trait[6] + 1);
                }
            }
        }

        int sum(int what) {
            return items.stream().mapToInt(t -> t.trait[what]).sum();
        }

        int set(Predicate<Item> p) {
            int set = 0;
            for (int i = 0; i < items.size(); i++) {
                set |= p.test(items.get(i)) ? 1 << i : 0;
            }
            return set;
        }

        int takenHeavy() {
            return items.stream().filter(t -> t.trait[5] == 1).mapToInt(t -> t.trait[2]).sum();
        }
    }

    private static final class Row {
        final int bits;
        final int[] numbers;

        Row(int bits, int n) {
            this.bits = bits;
            this.numbers = new int[n];
        }
    }

    private State s = new State();
    private State kept = null;
    private final Row[] rows = new Row[4];
    private String tape = "";
    private final int[] found = new int[7];

    // ---- an act: its name, its arguments, its answer

    public long act(String name, int... a) {
        try {
            return answer(name, a);
        } catch (Finding f) {
            found[f.which]++;
            return LOW - f.which;
        }
    }

    private static void need(boolean is, int which) {
        if (!is) {
            throw new Finding(which);
        }
    }

    private static void within(int v, int least, int most) {
        need(v >= least && v <= most, 0);
    }

    private Item item(int thing) {
        within(thing, 0, s.items.size() - 1);
        return s.items.get(thing);
    }

    private Row row(int r) {
        within(r, 0, 3);
        need(rows[r] != null, 5);
        return rows[r];
    }

    private static final int[] CART_MOST = {15, 1, 3, 20};
    private static final int[] LEAST = {0, 0, 1, 0, 0, 0, 0};
    private static final int[] MOST = {6, 15, 99, 999, 1, 1, 9999};

    private long answer(String name, int[] a) {
        switch (name) {
            case "set": {
                within(a[0], 0, 3);
                within(a[1], 0, CART_MOST[a[0]]);
                int was = s.cart[a[0]];
                s.cart[a[0]] = a[1];
                return was;
            }
            case "cart": within(a[0], 0, 3); return s.cart[a[0]];
            case "thing":
                within(a[0], 0, 6);
                within(a[1], 0, 15);
                need(s.items.size() < 8, 1);
                s.items.add(new Item(a[0], a[1], 10, 0, 0, 0, 0));
                return s.items.size() - 1;
            case "of": return of(a[0], a[1]);
            case "change": {
                Item t = item(a[0]);
                within(a[1], 0, 6);
                within(a[2], LEAST[a[1]], MOST[a[1]]);
                int was = t.trait[a[1]];
                t.trait[a[1]] = a[2];
                return was;
            }
            case "who": within(a[0], 0, 15); return s.set(t -> t.trait[5] == 0 && t.trait[1] == a[0]);
            case "go":
                within(a[0], 1, 60);
                need(s.call + a[0] <= CALLS_MOST, 4);
                s = s.behind(a[0]);
                return s.set(t -> t.trait[5] == 1);
            case "now": return now(a[0]);
            case "ahead":
                item(a[0]);
                need(a[1] == 1 || a[1] == 3 || a[1] == 5 || a[1] == 6, 0);
                within(a[2], 0, 100);
                return s.behind(a[2]).items.get(a[0]).trait[a[1]];
            case "where": within(a[0], 0, 100); return s.behind(a[0]).cart[0];
            case "taken": item(a[0]); return fewest(t -> t.items.get(a[0]).trait[5] == 1);
            case "when":
                item(a[0]);
                within(a[1], 0, 15);
                return fewest(t -> t.items.get(a[0]).trait[1] == a[1]);
            case "meet":
                item(a[0]);
                item(a[1]);
                need(a[0] != a[1], 0);
                return fewest(t -> t.items.get(a[0]).trait[1] == t.items.get(a[1]).trait[1]);
            case "strained":
                item(a[0]);
                within(a[1], 0, 999);
                return fewest(t -> t.items.get(a[0]).trait[3] >= a[1]);
            default: return answerPlans(name, a);
        }
    }

    private long of(int thing, int what) {
        Item t = item(thing);
        within(what, 0, 11);
        switch (what) {
            case 7: return t.kind().feels(s, t, s.cart[0]);
            case 8: return t.kind().steps(t);
            case 9: return t.kind().liked(t) ? 1 : 0;
            case 10: return t.kind().rests();
            case 11: return Kind.far(t, s.cart[0]);
            default: return t.trait[what];
        }
    }

    private long now(int what) {
        within(what, 0, 7);
        switch (what) {
            case 0: return s.call;
            case 1: return s.set(t -> t.trait[5] == 1);
            case 2: return s.sum(3);
            case 3: return s.sum(6);
            case 4: return s.takenHeavy();
            case 5: {
                int best = -1;
                for (int i = 0; i < s.items.size(); i++) {
                    boolean more = best < 0 || of(i, 7) > of(best, 7);
                    best = s.items.get(i).trait[5] == 0 && more ? i : best;
                }
                return best;
            }
            case 6: return s.items.stream().filter(t -> t.trait[5] == 0).mapToInt(t -> 1 << t.trait[1])
                    .reduce(0, (p, q) -> p | q);
            default: return s.set(t -> t.trait[4] == 1);
        }
    }

    private int fewest(Predicate<State> p) {
        State t = s.copy();
        for (int n = 0; n <= 200; n++) {
            if (p.test(t)) {
                return n;
            }
            t.call();
        }
        throw new Finding(3);
    }

    private static int first(int least, int most, IntPredicate p) {
        for (int v = least; v <= most; v++) {
            if (p.test(v)) {
                return v;
            }
        }
        throw new Finding(3);
    }

    private interface Worth {
        int of(int v);
    }

    private static int best(int most, Worth w) {
        int best = 0;
        for (int v = 1; v <= most; v++) {
            best = w.of(v) > w.of(best) ? v : best;
        }
        return best;
    }

    private long answerPlans(String name, int[] a) {
        switch (name) {
            case "loudFor":
                item(a[0]);
                within(a[1], 0, 60);
                return first(0, 20, v -> s.withCart(3, v).behind(a[1]).items.get(a[0]).trait[5] == 1);
            case "startFor":
                within(a[0], 0, 60);
                return best(15, v -> s.withCart(0, v).behind(a[0]).takenHeavy());
            case "layFor":
                item(a[0]);
                within(a[1], 0, 60);
                return best(15, v -> s.with(a[0], 1, v).behind(a[1]).items.get(a[0]).trait[6]);
            case "kindFor":
                item(a[0]);
                within(a[1], 0, 60);
                return best(6, v -> s.with(a[0], 0, v).behind(a[1]).items.get(a[0]).trait[6]);
            case "heavyFor":
                item(a[0]);
                within(a[1], 0, 60);
                return first(1, 99, v -> s.with(a[0], 2, v).behind(a[1]).items.get(a[0]).trait[5] == 0);
            case "holdFast": within(a[0], 0, 20); return holdFast(a[0]);
            case "fits": return asTold(row(a[0]), a[1], 16, 1, 3);
            case "kinds": return asTold(row(a[0]), a[1], 7, 0, 1);
            case "calls":
                within(a[0], 1, 20);
                need(s.call + a[0] <= CALLS_MOST, 4);
                for (int i = 0; i < a[0]; i++) {
                    s.cart[0] = draw() % 16;
                    s.cart[3] = draw() % 21;
                    s.call();
                }
                return s.set(t -> t.trait[5] == 1);
            case "odds": return odds(a[0], a[1], a[2], a[3]);
            case "seed": {
                int was = s.z;
                s.z = a[0];
                return was;
            }
            default: return answerTexts(name, a);
        }
    }

    private int draw() {
        s.z = s.z * 1103515245 + 12345;
        return s.z >>> 8;
    }

    private int holdFast(int n) {
        int best = -1;
        for (int set = 0; set < 1 << s.items.size(); set++) {
            State t = s.copy();
            for (int i = 0; i < t.items.size(); i++) {
                if ((set & 1 << i) != 0) {
                    t.items.get(i).trait[4] = 1;
                }
            }
            if (t.behind(n).sum(5) == s.sum(5) && (best < 0 || Integer.bitCount(set) < Integer.bitCount(best))) {
                best = set;
            }
        }
        need(best >= 0, 3);
        return best;
    }

    private int asTold(Row r, int thing, int choices, int changed, int watched) {
        item(thing);
        int set = 0;
        for (int v = 0; v < choices; v++) {
            boolean is = true;
            State t = s.with(thing, changed, v);
            for (int due : r.numbers) {
                is &= due == -1 || due == t.items.get(thing).trait[watched];
                t.call();
            }
            set |= is ? 1 << v : 0;
        }
        return set;
    }

    private long odds(int thing, int v, int n, int what) {
        Item t = item(thing);
        within(v, 0, 99);
        within(n, 0, 15);
        within(what, 0, 1);
        java.math.BigInteger above = java.math.BigInteger.ONE;
        java.math.BigInteger below = java.math.BigInteger.ONE;
        int cells = 0;
        for (int cell = 0; cell < 16; cell++) {
            cells += t.kind().feels(s, t, cell) >= v ? 1 : 0;
        }
        for (int i = 0; i < n; i++) {
            above = above.multiply(java.math.BigInteger.valueOf(cells));
            below = below.multiply(java.math.BigInteger.valueOf(16));
        }
        java.math.BigInteger both = above.gcd(below);
        return (what == 0 ? above : below).divide(both).longValueExact();
    }

    private long answerTexts(String name, int[] a) {
        switch (name) {
            case "feed":
                within(a[1], 1, 4);
                need(tape.length() + a[1] <= 120, 1);
                for (int i = a[1]; i > 0; i--) {
                    tape += (char) (a[0] >>> 8 * (i - 1) & 255);
                }
                return tape.length();
            case "wipe": {
                int had = tape.length();
                tape = "";
                return had;
            }
            case "text": {
                String read = tape;
                tape = "";
                return read(read);
            }
            case "hold":
                within(a[0], 0, 9);
                within(a[1], -1, s.items.size() - 1);
                s.spots[a[0]] = a[1];
                return 1;
            case "as": {
                within(a[0], 0, 9);
                within(a[1], 0, 6);
                need(s.spots[a[0]] >= 0, 5);
                need(KINDS[a[1]].getClass().isInstance(s.items.get(s.spots[a[0]]).kind()), 2);
                return s.spots[a[0]];
            }
            default: return answerSheets(name, a);
        }
    }

    private static final List<String> NAMES = List.of("thing", "iron", "gold", "sword", "bed", "needle", "crown");
    private static final Pattern TOKEN = Pattern.compile(" *([a-z]+|[0-9]+|[^ ]|$)", Pattern.DOTALL);

    /** What may stand next, by what stood last: words and bounds of numbers. */
    private int read(String text) {
        State t = s.copy();
        Matcher m = TOKEN.matcher(text);
        String last = ";";
        int items = 0;
        int before = 0;
        while (m.find(before)) {
            String token = m.group(1);
            before = m.end();
            Item newest = t.items.isEmpty() ? null : t.items.get(t.items.size() - 1);
            boolean isNumber = !token.isEmpty() && Character.isDigit(token.charAt(0)) && token.charAt(0) < 128;
            int number = !isNumber ? -1 : new java.math.BigInteger(token).min(java.math.BigInteger.valueOf(1000)).intValue();
            switch (last) {
                case ";":
                    if (NAMES.contains(token) && t.items.size() < 8) {
                        t.items.add(new Item(NAMES.indexOf(token), 0, 10, 0, 0, 0, 0));
                        last = "thing";
                    } else if (token.equals("cart") || token.equals("loud")) {
                        last = token;
                    } else {
                        return -1 - m.start(1);
                    }
                    items++;
                    continue;
                case "at":
                    if (number < 0 || number > 15) {
                        return -1 - m.start(1);
                    }
                    newest.trait[1] = number;
                    last = "its cell";
                    continue;
                case "heavy":
                    if (number < 1 || number > 99) {
                        return -1 - m.start(1);
                    }
                    newest.trait[2] = number;
                    last = "its heavy";
                    continue;
                case "pulled":
                    if (number < 0 || number > 999) {
                        return -1 - m.start(1);
                    }
                    newest.trait[3] = number;
                    last = "its pulled";
                    continue;
                case "cart":
                    if (number < 0 || number > 15) {
                        return -1 - m.start(1);
                    }
                    t.cart[0] = number;
                    t.cart[1] = 1;
                    last = "the cart's cell";
                    continue;
                case "pace":
                    if (number < 0 || number > 3) {
                        return -1 - m.start(1);
                    }
                    t.cart[2] = number;
                    last = "complete";
                    continue;
                case "loud":
                    if (number < 0 || number > 20) {
                        return -1 - m.start(1);
                    }
                    t.cart[3] = number;
                    last = "complete";
                    continue;
                default: break;
            }
            if (token.equals("")) {
                s = t;
                return items;
            }
            boolean may;
            switch (token) {
                case "at": may = last.equals("thing"); break;
                case "heavy": may = List.of("thing", "its cell").contains(last); break;
                case "pulled": may = List.of("thing", "its cell", "its heavy").contains(last); break;
                case "held": may = List.of("thing", "its cell", "its heavy", "its pulled").contains(last); break;
                case "back": may = last.equals("the cart's cell"); break;
                case "pace": may = List.of("the cart's cell", "its way").contains(last); break;
                case ";": may = true; break;
                default: may = false; break;
            }
            if (!may) {
                return -1 - m.start(1);
            }
            last = token;
            if (token.equals("held")) {
                newest.trait[4] = 1;
                last = "complete";
            } else if (token.equals("back")) {
                t.cart[1] = 0;
                last = "its way";
            }
        }
        throw new IllegalStateException(text);
    }

    private long answerSheets(String name, int[] a) {
        switch (name) {
            case "sheet":
                within(a[0], 0, 3);
                need(a[1] == 0 || a[1] == 8 || a[1] == 16 || a[1] == 32, 0);
                need(a[2] >= 0, 6);
                need(a[2] <= 40, 0);
                rows[a[0]] = a[1] == 0 ? null : new Row(a[1], a[2]);
                return a[1] == 0 ? 0 : a[2];
            case "write": {
                Row r = row(a[0]);
                within(a[1], 0, r.numbers.length - 1);
                r.numbers[a[1]] = a[2] << 32 - r.bits >> 32 - r.bits;
                return 1;
            }
            case "copy": {
                within(a[0], 0, 3);
                within(a[2], 0, 3);
                Row from = row(a[0]);
                Row to = row(a[2]);
                need(from.bits == to.bits, 2);
                need(a[1] >= 0 && a[3] >= 0 && a[4] >= 0, 0);
                need((long) a[1] + a[4] <= from.numbers.length && (long) a[3] + a[4] <= to.numbers.length, 0);
                int[] all = from.numbers.clone();
                for (int i = 0; i < a[4]; i++) {
                    to.numbers[a[3] + i] = all[a[1] + i];
                }
                return a[4];
            }
            case "load": {
                int came = 0;
                for (int heavy : row(a[0]).numbers) {
                    if (heavy < 1 || heavy > 99 || came >= s.items.size()) {
                        break;
                    }
                    s.items.get(came++).trait[2] = heavy;
                }
                return came;
            }
            case "judge": {
                int place = 0;
                for (int cell : row(a[0]).numbers) {
                    if (place >= s.items.size() || s.items.get(place).trait[1] != cell) {
                        return 1 + place;
                    }
                    place++;
                }
                return 0;
            }
            case "image": kept = s.copy(); return 1;
            case "undo": need(kept != null, 3); s = kept.copy(); return s.call;
            case "tear": {
                int had = kept == null ? 0 : 1;
                kept = null;
                return had;
            }
            case "count": return count(a[0]);
            case "status": {
                within(a[0], -1, 6);
                int all = 0;
                for (int f : found) {
                    all += f;
                }
                return a[0] < 0 ? all : found[a[0]];
            }
            default: throw new IllegalArgumentException(name);
        }
    }

    private long count(int what) {
        within(what, 0, 7);
        switch (what) {
            case 0: return s.call;
            case 1: return s.items.size();
            case 2: return s.sum(5);
            case 3: return s.sum(3);
            case 4: return s.sum(6);
            case 5: return tape.length();
            case 6: return s.z;
            default: {
                int used = 0;
                for (int spot : s.spots) {
                    used += spot >= 0 ? 1 : 0;
                }
                return used;
            }
        }
    }
}
