import java.lang.reflect.InvocationTargetException;
import java.lang.reflect.Method;
import java.util.ArrayList;
import java.util.Comparator;
import java.util.List;
import java.util.Random;

/** Many runs of 512 calls, of sense and of none, each answered as the Model answers. */
public final class WildTest {
    private static final int RUNS = 400;
    private static final String[] WORDS = {"thing", "iron", "gold", "sword", "bed", "needle", "crown", "at", "heavy",
        "pulled", "held", "cart", "back", "pace", "loud", ";", ";", " ", "  ", "0", "1", "3", "15", "16", "20", "99",
        "100", "999", "1000", "007", "x", "held", "#", "\t", "Iron"};
    private static final String[] LIVELY = {"go", "go", "set", "change", "change", "thing", "calls", "text", "write",
        "write", "sheet", "copy", "hold", "of", "now"};

    public static void main(String[] args) throws ReflectiveOperationException {
        Check check = new Check();
        List<Method> methods = new ArrayList<>();
        for (Method m : IronCall.class.getDeclaredMethods()) {
            if (java.lang.reflect.Modifier.isPublic(m.getModifiers())) {
                methods.add(m);
            }
        }
        methods.sort(Comparator.comparing(Method::getName));
        for (int run = 0; run < RUNS; run++) {
            run(check, methods, run, new Random(run));
        }
        check.finish();
    }

    private static void run(Check check, List<Method> methods, int run, Random r)
            throws ReflectiveOperationException {
        IronCall x = new IronCall();
        Model y = new Model();
        int calls = 0;
        int things = r.nextInt(9);
        for (; calls < things; calls++) {
            int[] a = {r.nextInt(7), r.nextInt(16)};
            check.due("thing", x.thing(a[0], a[1]), y.act("thing", a));
        }
        while (calls < 512) {
            Method m = methods.get(r.nextInt(methods.size()));
            if (r.nextInt(3) == 0) {
                String name = LIVELY[r.nextInt(LIVELY.length)];
                m = methods.stream().filter(o -> o.getName().equals(name)).findFirst().orElseThrow();
            }
            if (m.getName().equals("text")) {
                calls += feed(check, run, x, y, r);
            }
            if (m.getName().equals("fits") || m.getName().equals("kinds") || m.getName().equals("judge")) {
                calls += write(check, run, x, y, m.getName(), r);
            }
            int[] a = arguments(m.getName(), m.getParameterCount(), r);
            long want = y.act(m.getName(), a);
            check.due(told(run, m.getName(), a), answer(x, m, a), want);
            calls++;
        }
    }

    private static long answer(IronCall x, Method m, int[] a) throws ReflectiveOperationException {
        Object[] given = new Object[a.length];
        for (int i = 0; i < a.length; i++) {
            given[i] = a[i];
        }
        try {
            return ((Number) m.invoke(x, given)).longValue();
        } catch (InvocationTargetException e) {
            e.getCause().printStackTrace(System.out);
            return Long.MIN_VALUE;
        }
    }

    private static String told(int run, String name, int[] a) {
        return "run " + run + ": " + name + java.util.Arrays.toString(a);
    }

    /** Mostly of sense; at times beside it, at times far from it. */
    private static int[] arguments(String name, int n, Random r) {
        int[] a = new int[n];
        int wild = r.nextInt(40);
        for (int i = 0; i < n; i++) {
            a[i] = wild == 0 ? r.nextInt() : wild == 1 ? edge(r) : near(name, i, r);
        }
        return a;
    }

    private static int edge(Random r) {
        int[] edges = {Integer.MIN_VALUE, Integer.MAX_VALUE, -1, 0, 1, 7, 8, 15, 16, 20, 21, 39, 40, 41, 60, 61, 99, 100,
            101, 200, 999, 1000, 9999, 10000, 255, 256, 65535, 65536, -2, -1000001, Integer.MIN_VALUE + 1};
        return edges[r.nextInt(edges.length)];
    }

    private static int near(String name, int i, Random r) {
        switch (name + i) {
            case "set1": case "as0": return r.nextInt(22) % (r.nextInt(4) == 0 ? 22 : 10);
            case "set0": case "cart0": return r.nextInt(5);
            case "thing0": case "change1": case "as1": return r.nextInt(8);
            case "thing1": case "who0": case "when1": return r.nextInt(17);
            case "of1": return r.nextInt(13);
            case "change2": return r.nextInt(2) == 0 ? r.nextInt(2) : r.nextInt(r.nextInt(2) == 0 ? 20 : 1001);
            case "go0": return r.nextInt(r.nextInt(3) == 0 ? 62 : 6);
            case "now0": case "count0": return r.nextInt(9);
            case "ahead1": return 1 + r.nextInt(6);
            case "ahead2": case "where0": return r.nextInt(102);
            case "strained1": return r.nextInt(r.nextInt(2) == 0 ? 60 : 1001);
            case "loudFor1": case "layFor1": case "kindFor1": case "heavyFor1": case "startFor0":
                return r.nextInt(62);
            case "holdFast0": case "calls0": return r.nextInt(r.nextInt(3) == 0 ? 22 : 8);
            case "odds1": return r.nextInt(r.nextInt(3) == 0 ? 101 : 30);
            case "odds2": return r.nextInt(17);
            case "odds3": return r.nextInt(20) == 0 ? 2 : r.nextInt(2);
            case "seed0": return r.nextInt();
            case "feed0": return ' ' << 24 | 'b' << 16 | 'e' << 8 | 'd';
            case "feed1": return 1 + r.nextInt(4);
            case "hold0": return r.nextInt(10);
            case "hold1": return r.nextInt(9) - 1;
            case "sheet1": return 8 * r.nextInt(5);
            case "sheet2": return r.nextInt(12) - 1;
            case "write1": return r.nextInt(8);
            case "write2": return r.nextInt(6) == 0 ? r.nextInt() : r.nextInt(30) - 1;
            case "copy1": case "copy3": case "copy4": return r.nextInt(6);
            case "status0": return r.nextInt(9) - 1;
            default: return r.nextInt(name.equals("copy") || i == 0 && isOfSheets(name) ? 4 : 8);
        }
    }

    private static boolean isOfSheets(String name) {
        return List.of("fits", "kinds", "sheet", "write", "load", "judge").contains(name);
    }

    /** A text of words by chance, or one that is mostly well told. */
    private static int feed(Check check, int run, IronCall x, Model y, Random r) {
        StringBuilder text = new StringBuilder();
        boolean isFair = r.nextInt(3) > 0;
        int items = 1 + r.nextInt(4);
        for (int i = 0; i < items; i++) {
            text.append(i > 0 ? ";" : "").append(isFair ? fair(r) : chance(r));
        }
        if (r.nextInt(6) == 0 && text.length() > 0) {
            text.setCharAt(r.nextInt(text.length()), (char) r.nextInt(256));
        }
        int calls = 0;
        for (int at = 0; at + 4 <= text.length(); at += 4) {
            int bytes = text.charAt(at) << 24 | text.charAt(at + 1) << 16 | text.charAt(at + 2) << 8 | text.charAt(at + 3);
            check.due("run " + run + ": feed", x.feed(bytes, 4), y.act("feed", bytes, 4));
            calls++;
        }
        return calls;
    }

    private static String fair(Random r) {
        String gap = r.nextInt(4) == 0 ? "  " : " ";
        if (r.nextInt(4) == 0) {
            return "loud" + gap + r.nextInt(22) + gap;
        }
        if (r.nextInt(3) == 0) {
            return "cart" + r.nextInt(17) + (r.nextBoolean() ? "back" : "") + gap
                    + (r.nextBoolean() ? "pace " + r.nextInt(5) : "") + gap;
        }
        return gap + WORDS[r.nextInt(7)] + gap + (r.nextBoolean() ? "at " + r.nextInt(17) : "")
                + (r.nextBoolean() ? " heavy" + r.nextInt(101) : "")
                + (r.nextBoolean() ? " pulled " + r.nextInt(1001) : "") + (r.nextInt(3) == 0 ? gap + "held" : "");
    }

    private static String chance(Random r) {
        StringBuilder text = new StringBuilder();
        int words = r.nextInt(9);
        for (int i = 0; i < words; i++) {
            text.append(WORDS[r.nextInt(WORDS.length)]).append(r.nextInt(3) > 0 ? " " : "");
        }
        return text.toString();
    }

    /** A sheet with what will be of a thing, so that the asking has something to find. */
    private static int write(Check check, int run, IronCall x, Model y, String name, Random r) {
        int s = r.nextInt(4);
        int thing = r.nextInt(8);
        int n = r.nextInt(8);
        int bits = 8 << r.nextInt(3);
        check.due("run " + run + ": sheet", x.sheet(s, bits, n), y.act("sheet", s, bits, n));
        for (int i = 0; i < n; i++) {
            long told = name.equals("judge") ? y.act("of", i, 1) : y.act("ahead", thing, name.equals("fits") ? 3 : 1, i);
            long again = name.equals("judge") ? x.of(i, 1) : x.ahead(thing, name.equals("fits") ? 3 : 1, i);
            check.due("run " + run + ": told", again, told);
            int v = r.nextInt(9) == 0 ? -1 : (int) told;
            check.due("run " + run + ": write", x.write(s, i, v), y.act("write", s, i, v));
        }
        if (!name.equals("judge")) {
            long got = name.equals("fits") ? x.fits(s, thing) : x.kinds(s, thing);
            check.due("run " + run + ": " + name + " as told", got, y.act(name, s, thing));
        }
        return 2 * n + 2;
    }
}
