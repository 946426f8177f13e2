import java.io.IOException;
import java.io.OutputStream;
import java.io.PrintStream;
import java.nio.charset.StandardCharsets;
import java.nio.file.Files;
import java.nio.file.Path;
import java.util.ArrayList;
import java.util.List;
import java.util.concurrent.ExecutionException;
import java.util.concurrent.ExecutorService;
import java.util.concurrent.Executors;
import java.util.concurrent.Future;
import java.util.concurrent.TimeUnit;
import java.util.concurrent.TimeoutException;
import java.util.regex.Matcher;
import java.util.regex.Pattern;
import java.util.stream.Collectors;

/**
 * Each sentence of the document that says what a call answers or changes is held by a
 * test: src/test/sentences.txt tells all of the document, and behind each such sentence
 * how the class could break it. Here the class is broken so, and a test must see it.
 * Run from the project's root.
 */
public final class SentencesTest {
    private static final Path TABLE = Path.of("src/test/sentences.txt");
    private static final Path DOCUMENT = Path.of("../shared/DOC.md");
    private static final Path SOURCE = Path.of("src/main/java/IronCall.java");
    private static final int MOST_SECONDS = 60;

    /** A part of the document: its heading, its text as the table tells it, what must notice a break in it. */
    private static final class Part {
        final String heading;
        final StringBuilder told = new StringBuilder();
        final List<Break> breaks = new ArrayList<>();
        List<String> tests = List.of();

        Part(String heading) {
            this.heading = heading;
        }
    }

    private static final class Break {
        final Part part;
        final String sentence;
        final String from;
        final String old;
        final String instead;

        Break(Part part, String sentence, String from, String old, String instead) {
            this.part = part;
            this.sentence = sentence;
            this.from = from;
            this.old = old;
            this.instead = instead;
        }

        String told() {
            return part.heading + ": " + sentence + "\n    " + from + "\n  - " + old + "\n  + " + instead;
        }
    }

    public static void main(String[] args) throws Exception {
        Check check = new Check();
        List<Part> parts = read(check);
        sameAsDocument(check, parts);
        String source = Files.readString(SOURCE);
        PrintStream out = System.out;
        ExecutorService workers = Executors.newFixedThreadPool(Runtime.getRuntime().availableProcessors(), r -> {
            Thread thread = new Thread(r);
            thread.setDaemon(true);
            return thread;
        });
        System.setOut(new PrintStream(OutputStream.nullOutputStream(), false, StandardCharsets.UTF_8));
        List<String> faults = faults(parts, source, workers);
        System.setOut(out);
        workers.shutdown();
        for (String fault : faults) {
            check.due(fault, 1, 0);
        }
        check.finish();
    }

    // ---- the table

    private static List<Part> read(Check check) throws IOException {
        List<Part> parts = new ArrayList<>();
        List<String> lines = Files.readAllLines(TABLE);
        Part part = null;
        String sentence = "";
        String from = "";
        int breaksOfSentence = 1;
        for (int i = 0; i < lines.size(); i++) {
            String line = lines.get(i);
            String rest = line.length() > 2 ? line.substring(2).strip() : "";
            if (line.startsWith("## ")) {
                part = new Part(line.substring(3));
                parts.add(part);
            } else if (line.startsWith("tests: ")) {
                part.tests = List.of(line.substring(7).split(" "));
            } else if (line.startsWith(". ") || line.startsWith(": ")) {
                check.due("breaks of " + sentence, breaksOfSentence > 0 ? 1 : 0, 1);
                breaksOfSentence = line.startsWith(". ") ? 1 : 0;
                part.told.append(' ').append(rest);
                sentence = rest;
                from = "";
            } else if (line.startsWith("in: ")) {
                from = line.substring(4).strip();
            } else if (line.startsWith("- ")) {
                i++;
                check.due("+ behind " + line, lines.get(i).startsWith("+") ? 1 : 0, 1);
                part.breaks.add(new Break(part, sentence, from, rest, lines.get(i).substring(1).strip()));
                breaksOfSentence++;
            } else if (!line.isEmpty() && !line.startsWith("#")) {
                check.due("line " + (i + 1) + " of the table: " + line, 1, 0);
            }
        }
        check.due("breaks of " + sentence, breaksOfSentence > 0 ? 1 : 0, 1);
        return parts;
    }

    /** The table has each word of the document in its place, so that no sentence is forgotten. */
    private static void sameAsDocument(Check check, List<Part> parts) throws IOException {
        String document = Files.readString(DOCUMENT).replaceAll("(?m)^```.*$", "");
        String[] sections = document.split("(?m)^## ");
        check.due("parts of the document", parts.size(), sections.length - 1);
        for (int i = 0; i < parts.size() && i + 1 < sections.length; i++) {
            String[] halves = sections[i + 1].split("\n", 2);
            check.due("heading " + halves[0] + ", told as " + parts.get(i).heading,
                    parts.get(i).heading.equals(halves[0]) ? 1 : 0, 1);
            String want = plain(halves[1]);
            String told = plain(parts.get(i).told.toString());
            int at = 0;
            while (at < Math.min(want.length(), told.length()) && want.charAt(at) == told.charAt(at)) {
                at++;
            }
            check.due(halves[0] + " is told otherwise from «" + told.substring(Math.max(at - 20, 0), at) + "» on",
                    want.equals(told) ? 1 : 0, 1);
        }
    }

    private static String plain(String text) {
        return text.replaceAll("\\s+", " ").strip();
    }

    // ---- the breaks

    private static List<String> faults(List<Part> parts, String source, ExecutorService workers)
            throws InterruptedException, ExecutionException {
        List<Future<String>> results = new ArrayList<>();
        List<String> names = new ArrayList<>();
        List<String> all = parts.stream().flatMap(p -> p.tests.stream()).distinct().collect(Collectors.toList());
        names.add("the class as it is");
        results.add(workers.submit(() -> faultOfWhole(source, all)));
        for (Part part : parts) {
            for (Break b : part.breaks) {
                names.add(b.told());
                results.add(workers.submit(() -> faultOf(b, source)));
            }
        }
        List<String> faults = new ArrayList<>();
        for (int i = 0; i < results.size(); i++) {
            try {
                String fault = results.get(i).get(MOST_SECONDS, TimeUnit.SECONDS);
                if (!fault.isEmpty()) {
                    faults.add(fault + ": " + names.get(i) + "\n ");
                }
            } catch (TimeoutException e) {
                faults.add("no end: " + names.get(i));
            }
        }
        return faults;
    }

    /** The tests must find nothing where nothing is broken, or what they find elsewhere says nothing. */
    private static String faultOfWhole(String source, List<String> tests) throws Exception {
        String seen = seenBy(new Variant("IronCall", source), tests);
        return seen.isEmpty() ? "" : "seen by " + seen;
    }

    private static String faultOf(Break b, String source) throws Exception {
        int from = b.from.isEmpty() ? 0 : source.indexOf(b.from);
        if (from < 0 || from != Math.max(source.lastIndexOf(b.from), 0) && !b.from.isEmpty()) {
            return "«in» is not there once";
        }
        Matcher m = spacedAnyhow(b.old).matcher(source);
        if (!m.find(from)) {
            return "not there any more";
        }
        Variant broken = new Variant("IronCall", source.substring(0, m.start()) + b.instead + source.substring(m.end()));
        if (!broken.isCompiled()) {
            return b.part.tests.contains("FaceTest") ? "" : "doesn't compile";
        }
        return seenBy(broken, b.part.tests).isEmpty() ? "not seen by any test" : "";
    }

    private static Pattern spacedAnyhow(String text) {
        String[] words = text.split("\\s+");
        List<String> quoted = new ArrayList<>();
        for (String word : words) {
            quoted.add(Pattern.quote(word));
        }
        return Pattern.compile(String.join("\\s+", quoted));
    }

    /** The first of the tests that finds a wrong answer, or none. */
    private static String seenBy(Variant variant, List<String> tests) throws ReflectiveOperationException {
        for (String test : tests) {
            if (variant.thrownBy(test) != null) {
                return test;
            }
        }
        return "";
    }
}
