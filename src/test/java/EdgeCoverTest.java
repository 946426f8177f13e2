import java.io.IOException;
import java.lang.reflect.Method;
import java.nio.file.Files;
import java.nio.file.Path;
import java.util.List;
import java.util.Map;
import java.util.TreeMap;
import java.util.stream.Collectors;
import java.util.stream.Stream;

/** Every promise and every part of the Terms has boundary cases; run from the project's root. */
public final class EdgeCoverTest {
    public static void main(String[] args) throws IOException, ClassNotFoundException {
        Check check = new Check();
        List<String> tests;
        try (Stream<Path> files = Files.list(Path.of("src/test/java"))) {
            tests = files.map(f -> f.getFileName().toString()).filter(f -> f.endsWith("EdgeTest.java"))
                    .map(f -> f.replace(".java", "")).sorted().collect(Collectors.toList());
        }
        Map<String, Integer> cases = new TreeMap<>();
        for (String test : tests) {
            for (Method m : Class.forName(test).getDeclaredMethods()) {
                if (m.getName().matches(Edge.NAME)) {
                    cases.merge(m.getName().replaceAll("_.*", ""), 1, Integer::sum);
                }
            }
        }
        has(check, cases, "findings");
        for (int part = 1; part <= 3; part++) {
            has(check, cases, "terms" + part);
        }
        for (int promise = 1; promise <= 41; promise++) {
            has(check, cases, "promise" + promise);
        }
        check.due("nothing else", cases.size(), 1 + 3 + 41);
        check.finish();
    }

    private static void has(Check check, Map<String, Integer> cases, String name) {
        check.due("cases of " + name, cases.getOrDefault(name, 0) > 0 ? 1 : 0, 1);
    }
}
