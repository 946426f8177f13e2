import java.lang.reflect.InvocationTargetException;
import java.lang.reflect.Method;
import java.util.ArrayList;
import java.util.Arrays;
import java.util.List;

/**
 * What the tests of boundary cases share. Each case is a static method without
 * parameters, named after its promise, or the part of the document's Terms, and
 * the case; runAll finds them, so that none is forgotten.
 */
abstract class Edge {
    static final int BEYOND = Check.BEYOND;
    static final int FULL = Check.FULL;
    static final int KIND = Check.KIND;
    static final int NONE = Check.NONE;
    static final int STATE = Check.STATE;
    static final int MISSING = Check.MISSING;
    static final int SIZE = Check.SIZE;
    static final int LEAST = Integer.MIN_VALUE;
    static final int GREATEST = Integer.MAX_VALUE;
    static final String NAME = "(findings|terms[123]|promise[1-9][0-9]?)_\\w+";

    private static String test = "";
    private static int answer = 0;
    private static int answers = 0;
    private static int wrong = 0;

    interface Act {
        long on(IronCall x);
    }

    interface Street {
        IronCall made();
    }

    // ---- running

    static void runAll(Class<?> tests) {
        List<Method> methods = new ArrayList<>();
        for (Method m : tests.getDeclaredMethods()) {
            if (m.getName().matches(NAME)) {
                methods.add(m);
            }
        }
        methods.sort((a, b) -> a.getName().compareTo(b.getName()));
        for (Method m : methods) {
            run(m);
        }
        System.out.println(methods.size() + " cases, " + answers + " answers, " + wrong + " of them wrong");
        if (wrong > 0 || methods.isEmpty()) {
            throw new AssertionError(wrong + " wrong of " + answers);
        }
    }

    private static void run(Method m) {
        test = m.getName();
        answer = 0;
        try {
            m.invoke(null);
        } catch (InvocationTargetException e) {
            wrong++;
            System.out.println(test + " threw " + e.getCause());
        } catch (IllegalAccessException e) {
            throw new IllegalStateException(e);
        }
        if (answer == 0) {
            wrong++;
            System.out.println(test + " asked for nothing");
        }
    }

    // ---- asking

    static void due(long got, long want) {
        answers++;
        answer++;
        if (got != want) {
            wrong++;
            System.out.println(test + ": answer " + answer + " was " + got + ", due is " + want);
        }
    }

    /** The act answers a finding, which is counted; nothing else is changed by it. */
    static void refused(Street street, int finding, Act act) {
        changesNothing(street, finding, finding, act);
    }

    static void refused(int finding, Act act) {
        refused(Edge::lived, finding, act);
    }

    /** The act answers what is no finding, and changes nothing. */
    static void tells(Street street, long want, Act act) {
        changesNothing(street, want, 0, act);
    }

    static void tells(long want, Act act) {
        tells(Edge::lived, want, act);
    }

    private static void changesNothing(Street street, long want, int finding, Act act) {
        IronCall x = street.made();
        IronCall twin = street.made();
        due(act.on(x), want);
        for (int which = -1; which <= 6; which++) {
            boolean isCounted = finding != 0 && (which == -1 || which == BEYOND - finding);
            due(x.status(which), twin.status(which) + (isCounted ? 1 : 0));
        }
        same(x, twin);
    }

    /** All that two objects can tell is the same; behind this they are of no more use. */
    static void same(IronCall x, IronCall twin) {
        List<String> told = told(x);
        List<String> want = told(twin);
        int at = 0;
        while (at < told.size() && at < want.size() && told.get(at).equals(want.get(at))) {
            at++;
        }
        due(told.size(), want.size());
        boolean isSame = told.equals(want);
        due(isSame ? 1 : 0, 1);
        if (!isSame) {
            System.out.println(test + ": left " + told.subList(at, Math.min(at + 1, told.size())) + ", due is "
                    + want.subList(at, Math.min(at + 1, want.size())));
        }
    }

    // ---- telling all of an object, in some 300 calls

    private static List<String> told(IronCall x) {
        List<String> rows = new ArrayList<>();
        tellStreet(rows, x);
        tellSheets(rows, x);
        rows.add("text() " + x.text());
        tellNumbers(rows, x);
        rows.add("undo() " + x.undo());
        tellStreet(rows, x);
        rows.add("tear() " + x.tear());
        return rows;
    }

    private static void tellNumbers(List<String> rows, IronCall x) {
        for (int what = 0; what < 4; what++) {
            rows.add("cart(" + what + ") " + x.cart(what));
        }
        for (int what = 0; what < 8; what++) {
            rows.add("count(" + what + ") " + x.count(what));
        }
    }

    private static void tellStreet(List<String> rows, IronCall x) {
        tellNumbers(rows, x);
        int things = x.count(1);
        for (int thing = 0; thing < things; thing++) {
            for (int what = 0; what < 12; what++) {
                rows.add("of(" + thing + ", " + what + ") " + x.of(thing, what));
            }
        }
        for (int spot = 0; spot < 10; spot++) {
            rows.add("as(" + spot + ", 0) " + x.as(spot, 0));
        }
    }

    /** A sheet's numbers are told by loading each, from the sheet's begin, as HEAVY of thing 0. */
    private static void tellSheets(List<String> rows, IronCall x) {
        for (int s = 0; s < 4; s++) {
            rows.add("judge(" + s + ") " + x.judge(s));
            for (int i = 0; i < 5; i++) {
                rows.add("number " + i + " of " + s + ": " + x.copy(s, i, s, 0, 1) + " " + x.load(s) + " " + x.of(0, 2));
            }
            x.write(s, 0, 256 + 44);
            rows.add("300 on " + s + ": " + x.load(s) + " " + x.of(0, 2));
            x.write(s, 0, 65536 + 45);
            rows.add("65581 on " + s + ": " + x.load(s) + " " + x.of(0, 2));
        }
    }

    // ---- objects to ask

    /** Five things, with a tape, sheets and spots; an image of an earlier time is kept. */
    static IronCall lived() {
        IronCall x = new IronCall();
        Check.text(x, "cart 5 pace 0; loud 0; iron at 6; gold at 3");
        x.go(3);
        x.hold(2, 1);
        x.image();
        x.go(2);
        Check.text(x, "cart 9 back pace 2; loud 11; needle at 12 heavy 5 pulled 44 held; bed at 3; crown at 4 heavy 7");
        x.change(0, 6, 4);
        x.change(1, 3, 6);
        x.change(3, 5, 1);
        x.hold(2, -1);
        x.hold(7, 3);
        x.hold(9, 0);
        x.seed(77);
        Check.fill(x, 0, 8, 11, 12, 13);
        Check.fill(x, 1, 16, 21, 22);
        Check.fill(x, 2, 32, 31);
        Check.feed(x, "loud 3; bed at 3");
        x.who(16);
        return x;
    }

    /** The cart stands at an end with a WAY that nothing but a CALL may turn. */
    static IronCall turning() {
        IronCall x = lived();
        x.set(0, 0);
        x.set(1, 0);
        return x;
    }

    /** Eight things, ten spots in use, a tape of 120 bytes. */
    static IronCall full() {
        IronCall x = new IronCall();
        x.image();
        for (int i = 0; i < 8; i++) {
            x.thing(i % 7, 15 - 2 * i);
        }
        for (int spot = 0; spot < 10; spot++) {
            x.hold(spot, spot % 8);
        }
        blanks(x, 114);
        Check.feed(x, "loud 5");
        return x;
    }

    static IronCall eightWithoutTape() {
        IronCall x = full();
        x.wipe();
        return x;
    }

    static IronCall fresh() {
        return new IronCall();
    }

    static void blanks(IronCall x, int n) {
        char[] blanks = new char[n];
        Arrays.fill(blanks, ' ');
        Check.feed(x, new String(blanks));
    }

    /** The traits of a thing from its KIND on, as many as are given. */
    static void thingIs(IronCall x, int thing, int... traits) {
        for (int what = 0; what < traits.length; what++) {
            due(x.of(thing, what), traits[what]);
        }
    }

    static void cartIs(IronCall x, int... traits) {
        for (int what = 0; what < traits.length; what++) {
            due(x.cart(what), traits[what]);
        }
    }
}
