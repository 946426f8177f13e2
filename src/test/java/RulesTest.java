import java.io.IOException;
import java.nio.file.Files;
import java.nio.file.Path;
import java.util.ArrayDeque;
import java.util.Deque;
import java.util.List;
import java.util.Map;
import java.util.TreeMap;
import java.util.regex.Matcher;
import java.util.regex.Pattern;

/** What of ../shared/LANGUAGE.md can be seen in the class's text; run from the project's root. */
public final class RulesTest {
    private static final Check check = new Check();
    private static final String[] BANNED = {"\\bthrow\\b", "\\bthrows\\b", "\\btry\\b", "\\bcatch\\b",
        "\\bsynchronized\\b", "\\bassert\\b", "->", "::", "\\bimport\\b", "\\bpackage\\b", "\\bprotected\\b",
        "\\bvar\\b", "\\bSystem\\.(?!arraycopy\\b)", "\\bMath\\.\\w*Exact\\b", "\\bhashCode\\b", "\\btoString\\b",
        "\\bfinalize\\b", "\\bnative\\b", "\\bvolatile\\b", "\\bThread\\b", "\\bObject\\b", "\\.\\.\\.", "@",
        "\\bwhile \\(true\\)", "\\bfor \\(;;\\)"};
    private static final Pattern METHOD = Pattern.compile(
            "(?:(?:public|private|static|final) )*(?:[A-Za-z]+(?:\\[\\])* )?(\\w+)\\(([^()]*)\\) \\{");
    private static final Pattern CALL = Pattern.compile("(?<!new )\\b([A-Za-z]\\w*)\\(");
    private static final Pattern FIELD = Pattern.compile(
            "(?:private )?(?:final )?(?!return)[A-Za-z]+(?:\\[\\])? \\w+;");
    private static final List<String> WORDS = List.of("if", "for", "while", "switch", "return", "else");

    public static void main(String[] args) throws IOException {
        String source = Files.readString(Path.of("src/main/java/IronCall.java"));
        for (int i = 0; i < source.length(); i++) {
            char sign = source.charAt(i);
            if (sign > 126 || sign < 32 && sign != '\n') {
                check.due("sign at " + i, sign, ' ');
            }
        }
        String bare = source.replaceAll("(?s)/\\*.*?\\*/", "").replaceAll("//[^\n]*", "")
                .replaceAll("\"[^\"\n]*\"", "\"\"").replaceAll("'[^'\n]+'", "' '");
        for (String banned : BANNED) {
            Matcher m = Pattern.compile(banned).matcher(bare);
            check.due(banned, m.find() ? 1 : 0, 0);
        }
        check.due("texts joined by +", bare.contains("\"\" +") || bare.contains("+ \"\"") ? 1 : 0, 0);
        check.due("public classes", bare.split("\\bpublic (final )?class ", -1).length - 1, 1);
        check.due("at most twelve classes", Pattern.compile("\\bclass \\w+ \\{").matcher(bare).results().count() <= 12 ? 1 : 0, 1);
        fields(bare);
        methods(bare);
        check.finish();
    }

    private static void fields(String bare) {
        for (String body : bare.split("\\bclass \\w+ \\{")) {
            long fields = body.lines().filter(l -> FIELD.matcher(l.strip()).matches()).count();
            check.due("fields: " + fields, fields <= 20 ? 1 : 0, 1);
        }
    }

    private static void methods(String bare) {
        String[] lines = bare.split("\n");
        Map<String, StringBuilder> bodies = new TreeMap<>();
        for (int i = 0; i < lines.length; i++) {
            Matcher m = METHOD.matcher(lines[i].strip());
            if (!m.matches() || WORDS.contains(m.group(1))) {
                continue;
            }
            String indent = lines[i].substring(0, lines[i].indexOf(lines[i].strip()));
            int end = i;
            while (!lines[end].equals(indent + "}")) {
                bodies.computeIfAbsent(m.group(1), n -> new StringBuilder()).append(end > i ? lines[end] : "").append('\n');
                end++;
            }
            check.due(m.group(1) + " has " + (end - i + 1) + " lines", end - i + 1 <= 60 ? 1 : 0, 1);
            check.due(m.group(1) + "'s parameters", m.group(2).split(",").length <= 7 ? 1 : 0, 1);
            i = end;
        }
        check.due("methods are seen", bodies.size() > 90 ? 1 : 0, 1);
        for (String name : bodies.keySet()) {
            int deep = deepest(bodies, name, new ArrayDeque<>());
            check.due(name + " goes " + deep + " deep", deep <= 8 ? 1 : 0, 1);
        }
    }

    /** How deep calls go from a method, itself and the library's counted; one name stands for all that bear it. */
    private static int deepest(Map<String, StringBuilder> bodies, String name, Deque<String> open) {
        if (open.contains(name)) {
            return 1;
        }
        open.push(name);
        int most = 0;
        if (bodies.containsKey(name)) {
            Matcher m = CALL.matcher(bodies.get(name));
            while (m.find()) {
                if (!WORDS.contains(m.group(1))) {
                    most = Math.max(most, deepest(bodies, m.group(1), open));
                }
            }
        }
        open.pop();
        return most + 1;
    }
}
