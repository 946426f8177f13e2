import java.lang.reflect.Constructor;
import java.lang.reflect.Field;
import java.lang.reflect.Method;
import java.lang.reflect.Modifier;
import java.util.Arrays;
import java.util.Set;
import java.util.TreeSet;

/** The public face is that of the document, and nothing else is to be seen. */
public final class FaceTest {
    private static final String[] FACE = {
        "int set(int,int)", "int cart(int)", "int thing(int,int)", "int of(int,int)",
        "int change(int,int,int)", "int who(int)", "int go(int)", "int now(int)",
        "int ahead(int,int,int)", "int where(int)", "int taken(int)", "int when(int,int)",
        "int meet(int,int)", "int strained(int,int)", "int loudFor(int,int)",
        "int startFor(int)", "int layFor(int,int)", "int kindFor(int,int)",
        "int heavyFor(int,int)", "int holdFast(int)", "int fits(int,int)",
        "int kinds(int,int)", "int calls(int)", "long odds(int,int,int,int)", "int seed(int)",
        "int feed(int,int)", "int wipe()", "int text()", "int hold(int,int)", "int as(int,int)",
        "int sheet(int,int,int)", "int write(int,int,int)", "int copy(int,int,int,int,int)",
        "int load(int)", "int judge(int)", "int image()", "int undo()", "int tear()",
        "int count(int)", "int status(int)",
    };

    public static void main(String[] args) {
        Check check = new Check();
        int flags = IronCall.class.getModifiers();
        check.due("public final class", flags & (Modifier.PUBLIC | Modifier.FINAL), 17);
        Set<String> seen = new TreeSet<>();
        Set<String> hidden = new TreeSet<>();
        for (Method m : IronCall.class.getDeclaredMethods()) {
            if (Modifier.isPrivate(m.getModifiers())) {
                hidden.add(m.getName());
            } else {
                seen.add(told(m));
            }
        }
        Set<String> due = new TreeSet<>(Arrays.asList(FACE));
        check.due("methods " + seen, seen.equals(due) ? 1 : 0, 1);
        for (String method : FACE) {
            String name = method.substring(method.indexOf(' ') + 1, method.indexOf('('));
            check.due("private " + name, hidden.contains(name) ? 1 : 0, 0);
        }
        Constructor<?>[] made = IronCall.class.getDeclaredConstructors();
        check.due("constructors", made.length, 1);
        check.due("constructor's flags", made[0].getModifiers(), Modifier.PUBLIC);
        check.due("constructor's parameters", made[0].getParameterCount(), 0);
        for (Field f : IronCall.class.getDeclaredFields()) {
            check.due("private " + f.getName(), Modifier.isPrivate(f.getModifiers()) ? 1 : 0, 1);
            if (Modifier.isStatic(f.getModifiers())) {
                check.due("final " + f.getName(), Modifier.isFinal(f.getModifiers()) ? 1 : 0, 1);
            }
        }
        for (Class<?> c : IronCall.class.getDeclaredClasses()) {
            check.due("static " + c.getName(), Modifier.isStatic(c.getModifiers()) ? 1 : 0, 1);
            check.due("hidden " + c.getName(), Modifier.isPublic(c.getModifiers()) ? 1 : 0, 0);
        }
        check.finish();
    }

    private static String told(Method m) {
        StringBuilder told = new StringBuilder();
        told.append(Modifier.isPublic(m.getModifiers()) ? "" : "not public ");
        told.append(Modifier.isStatic(m.getModifiers()) ? "static " : "");
        told.append(m.getReturnType().getName()).append(' ').append(m.getName()).append('(');
        for (Class<?> c : m.getParameterTypes()) {
            told.append(told.charAt(told.length() - 1) == '(' ? "" : ",").append(c.getName());
        }
        return told.append(')').toString();
    }
}
