import java.io.IOException;
import java.nio.file.Files;
import java.nio.file.Path;
import java.util.ArrayList;
import java.util.List;
import java.util.regex.Matcher;
import java.util.regex.Pattern;

/** README.md's example answers as it says there, and its commands run; run from the project's root. */
public final class ReadmeTest {
    private static final Path README = Path.of("README.md");
    private static final Pattern CALL = Pattern.compile("(street\\.\\w+\\(.*\\));\\s+// (-?\\d+): .*");
    private static final List<String> FINDINGS = List.of("-1000001 BEYOND", "-1000002 FULL", "-1000003 KIND",
            "-1000004 NONE", "-1000005 STATE", "-1000006 MISSING", "-1000007 SIZE");

    public static void main(String[] args) throws Exception {
        Check check = new Check();
        List<String> lines = Files.readAllLines(README);
        example(check, lines);
        commands(check, lines);
        namesItsTests(check);
        check.finish();
    }

    /** The example is compiled as it stands, but that each call's answer is compared with the one told behind it. */
    private static void example(Check check, List<String> lines) throws Exception {
        int begin = lines.indexOf("```java");
        StringBuilder source = new StringBuilder("public final class Example {\n"
                + "public static void main(String[] args) {\nCheck check = new Check();\n");
        int calls = 0;
        for (int i = begin + 1; !lines.get(i).equals("```"); i++) {
            Matcher m = CALL.matcher(lines.get(i));
            if (m.matches()) {
                calls++;
                source.append("check.due(\"").append(m.group(1)).append("\", ").append(m.group(1)).append(", ")
                        .append(m.group(2)).append(");\n");
            } else {
                check.due("a call without its answer: " + lines.get(i), lines.get(i).startsWith("street.") ? 1 : 0, 0);
                source.append(lines.get(i)).append('\n');
            }
        }
        source.append("check.finish();\n}\n}\n");
        Variant example = new Variant("Example", source.toString());
        check.due("calls in the example", calls > 20 ? 1 : 0, 1);
        check.due("the example compiles", example.isCompiled() ? 1 : 0, 1);
        check.due("the example answers as told", example.thrownBy("Example") == null ? 1 : 0, 1);
        String all = String.join(" ", lines);
        for (String finding : FINDINGS) {
            check.due(finding, all.contains(finding) ? 1 : 0, 1);
        }
    }

    /** Of the commands, .ci/run is what runs this; the others are run here. */
    private static void commands(Check check, List<String> lines) throws IOException, InterruptedException {
        List<String> commands = new ArrayList<>();
        for (String line : lines) {
            if (line.startsWith("    ")) {
                commands.add(line.strip());
            }
        }
        check.due(".ci/run comes first", commands.get(0).equals(".ci/run") ? 1 : 0, 1);
        check.due(".ci/run can be run", Files.isExecutable(Path.of(".ci/run")) ? 1 : 0, 1);
        Path temp = Files.createTempDirectory("readme");
        Path told = temp.resolve("told");
        String script = String.join("\n", commands.subList(1, commands.size()));
        ProcessBuilder builder = new ProcessBuilder("sh", "-e", "-c", script);
        builder.environment().put("TMPDIR", temp.toString());
        builder.redirectErrorStream(true).redirectOutput(told.toFile());
        check.due("exit code of the other commands", builder.start().waitFor(), 0);
        check.due("the one test", Files.readString(told).strip().endsWith(" 0 of them wrong") ? 1 : 0, 1);
        RunTest.remove(temp);
    }

    private static void namesItsTests(Check check) throws IOException {
        String readme = Files.readString(README);
        try (java.util.stream.Stream<Path> files = Files.list(Path.of("src/test/java"))) {
            for (Path file : (Iterable<Path>) files::iterator) {
                String name = file.getFileName().toString().replace(".java", "");
                boolean isNamed = readme.contains("`" + name + "`") || name.endsWith("EdgeTest");
                check.due(name + " is told of", !name.endsWith("Test") || isNamed ? 1 : 0, 1);
            }
        }
    }
}
