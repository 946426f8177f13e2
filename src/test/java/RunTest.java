import java.io.IOException;
import java.nio.file.Files;
import java.nio.file.Path;
import java.util.Comparator;
import java.util.List;
import java.util.stream.Collectors;
import java.util.stream.Stream;

/** .ci/run, tried in small projects made for it: it runs every test, and fails if one fails. Run from the root. */
public final class RunTest {
    private static final Check check = new Check();
    private static final String RIGHT = "%s public static void main(String[] a) { System.out.println(IronCall.TOLD); } }";
    private static final String WRONG = "%s public static void main(String[] a) { System.exit(IronCall.TOLD); } }";
    private static final String NO_JAVA = "%s public static void main(String[] a) { } ";

    public static void main(String[] args) throws Exception {
        run("all pass", new String[] {RIGHT, RIGHT}, new String[] {RIGHT}, "3 passed, 0 failed", 0);
        run("each may fail", new String[] {WRONG, RIGHT}, new String[] {WRONG, NO_JAVA}, "1 passed, 3 failed", 1);
        check.finish();
    }

    private static void run(String what, String[] own, String[] shared, String last, int code)
            throws IOException, InterruptedException {
        Path temp = Files.createTempDirectory("run");
        Path root = temp.resolve("main");
        Path script = write(root.resolve(".ci/run"), Files.readString(Path.of(".ci/run")));
        check.due("executable", script.toFile().setExecutable(true) ? 1 : 0, 1);
        write(root.resolve("src/main/java/IronCall.java"), "class IronCall { static final int TOLD = 1; }");
        for (int i = 0; i < own.length; i++) {
            write(root.resolve("src/test/java/Own" + i + "Test.java"), own[i].formatted("class Own" + i + "Test {"));
        }
        write(root.resolve("src/test/java/Helper.java"), WRONG.formatted("class Helper {"));
        for (int i = 0; i < shared.length; i++) {
            write(temp.resolve("shared/tests/Shared" + i + ".java"), shared[i].formatted("class Shared" + i + " {"));
        }
        Path told = temp.resolve("told");
        ProcessBuilder builder = new ProcessBuilder(script.toString());
        builder.redirectErrorStream(true).redirectOutput(told.toFile());
        int exit = builder.start().waitFor();
        List<String> lines = Files.readAllLines(told);
        check.due(what + ": exit code", exit, code);
        check.due(what + ": " + lines, !lines.isEmpty() && lines.get(lines.size() - 1).equals(last) ? 1 : 0, 1);
        remove(temp);
    }

    private static Path write(Path file, String text) throws IOException {
        Files.createDirectories(file.getParent());
        return Files.writeString(file, text);
    }

    static void remove(Path folder) throws IOException {
        List<Path> all;
        try (Stream<Path> found = Files.walk(folder)) {
            all = found.sorted(Comparator.reverseOrder()).collect(Collectors.toList());
        }
        for (Path path : all) {
            Files.delete(path);
        }
    }
}
