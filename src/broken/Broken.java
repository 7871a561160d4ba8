import java.io.IOException;
import java.nio.file.Files;
import java.nio.file.Path;
import java.util.ArrayList;
import java.util.LinkedHashMap;
import java.util.LinkedHashSet;
import java.util.List;
import java.util.Map;
import java.util.Set;
import java.util.concurrent.ExecutorService;
import java.util.concurrent.Executors;
import java.util.concurrent.Future;
import java.util.concurrent.TimeUnit;
import java.util.regex.Matcher;
import java.util.regex.Pattern;

/**
 * Breaks the class, sentence by sentence of the document, as breaks.txt says, and tells whether the edge
 * test of just that sentence sees it. Also told: sentences without a break, and sentences whose words do
 * not stand in the document. It is run by hand (java src/broken/Broken.java); .ci/run does without it.
 */
public final class Broken {
    private static final Path SOURCE = Path.of("src/main/java/DrumCoder.java");
    private static final Path BREAKS = Path.of("src/broken/breaks.txt");
    private static final Path DOCUMENT = Path.of("../shared/DOC.md");
    private static final Path TESTS = Path.of("src/test/java");

    /** What to put for what, and the sentence that is broken then. */
    private record Break(int line, String sentence, List<String> old, List<String> put) {
    }

    private final Path room = Files.createTempDirectory("broken");
    private final String source = Files.readString(SOURCE);
    /** Each sentence, by its promise and words, with the test that has it. */
    private final Map<String, String> sentences = new LinkedHashMap<>();

    private Broken() throws IOException {
    }

    public static void main(String[] args) throws Exception {
        System.exit(new Broken().work() ? 0 : 1);
    }

    private boolean work() throws Exception {
        Path whole = Files.createDirectory(room.resolve("whole"));
        List<String> javac = new ArrayList<>(List.of("javac", "-d", whole.toString(), SOURCE.toString()));
        for (Path test : list(TESTS, ".java")) {
            javac.add(test.toString());
        }
        run(javac, 120);
        for (Path test : list(TESTS, "EdgeTest.java")) {
            readSentences(whole, test.getFileName().toString().replace(".java", ""));
        }
        boolean fine = standInTheDocument() & wholeClassPasses(whole) & everyPromiseHasOne();
        Set<String> seen = new LinkedHashSet<>();
        List<Break> breaks = readBreaks();
        ExecutorService hands = Executors.newFixedThreadPool(Runtime.getRuntime().availableProcessors());
        List<Future<String>> told = new ArrayList<>();
        for (Break b : breaks) {
            told.add(hands.submit(() -> tryOut(b, whole)));
        }
        for (int i = 0; i < breaks.size(); i++) {
            String fault = told.get(i).get();
            if (fault.isEmpty()) {
                seen.add(breaks.get(i).sentence);
            } else {
                fine = false;
                System.out.println("line " + breaks.get(i).line + ", " + breaks.get(i).sentence + ": " + fault);
            }
        }
        hands.shutdown();
        for (String sentence : sentences.keySet()) {
            if (!seen.contains(sentence)) {
                fine = false;
                System.out.println("no break that its test sees: " + sentence);
            }
        }
        System.out.println(breaks.size() + " breaks, " + seen.size() + " of " + sentences.size()
                + " sentences have one that their test sees");
        return fine;
    }

    private static List<Path> list(Path directory, String ending) throws IOException {
        try (var files = Files.list(directory)) {
            return files.filter(f -> f.toString().endsWith(ending)).sorted().toList();
        }
    }

    private void readSentences(Path whole, String test) throws Exception {
        Matcher m = Pattern.compile("(?m)^sentence of promise (\\d+): (.*)$")
                .matcher(run(List.of("java", "-Dlist=yes", "-cp", whole.toString(), test), 60));
        while (m.find()) {
            sentences.put(m.group(1) + ": " + m.group(2), test);
        }
    }

    private boolean standInTheDocument() throws IOException {
        String document = Files.readString(DOCUMENT).replaceAll("\\s+", " ");
        boolean all = true;
        for (String sentence : sentences.keySet()) {
            String words = sentence.substring(sentence.indexOf(": ") + 2);
            if (!document.contains(words)) {
                all = false;
                System.out.println("not in the document: " + words);
            }
        }
        return all;
    }

    /** Else a break would seem to be seen that is not. */
    private boolean wholeClassPasses(Path whole) throws Exception {
        boolean all = true;
        for (String test : new LinkedHashSet<>(sentences.values())) {
            String out = run(List.of("java", "-cp", whole.toString(), test), 120);
            if (!out.contains(" 0 wrong")) {
                all = false;
                System.out.println("with the class as it is: " + out);
            }
        }
        return all;
    }

    private boolean everyPromiseHasOne() {
        boolean all = true;
        for (int promise = 1; promise <= 29; promise++) {
            String beginning = promise + ": ";
            if (sentences.keySet().stream().noneMatch(s -> s.startsWith(beginning))) {
                all = false;
                System.out.println("no sentence of promise " + promise);
            }
        }
        return all;
    }

    /** "== promise: words", then "--", what stands in the class, "++", what is put for it, once or more. */
    private static List<Break> readBreaks() throws IOException {
        List<Break> breaks = new ArrayList<>();
        List<String> part = null;
        int number = 0;
        for (String line : Files.readAllLines(BREAKS)) {
            number++;
            if (line.startsWith("== ")) {
                breaks.add(new Break(number, line.substring(3), new ArrayList<>(), new ArrayList<>()));
                part = null;
            } else if (line.equals("--") || line.equals("++")) {
                Break last = breaks.get(breaks.size() - 1);
                part = line.equals("--") ? last.old : last.put;
                part.add("");
            } else if (part != null && !line.isBlank()) {
                part.set(part.size() - 1, part.get(part.size() - 1) + line + "\n");
            }
        }
        return breaks;
    }

    /** Nothing if the sentence's own test sees the break. */
    private String tryOut(Break b, Path whole) throws Exception {
        if (!sentences.containsKey(b.sentence)) {
            return "no test has this sentence";
        }
        String broken = source;
        for (int i = 0; i < b.old.size(); i++) {
            Matcher m = Pattern.compile(anyBlanks(b.old.get(i))).matcher(broken);
            if (!m.find()) {
                return "not in the class: " + b.old.get(i);
            }
            broken = m.replaceAll(Matcher.quoteReplacement(b.put.get(i)));
        }
        Path own = Files.createDirectory(room.resolve("line" + b.line));
        Path file = own.resolve("DrumCoder.java");
        Files.writeString(file, broken);
        String made = run(List.of("javac", "-d", own.toString(), file.toString()), 120);
        if (!Files.exists(own.resolve("DrumCoder.class"))) {
            return "does not compile: " + made;
        }
        String test = sentences.get(b.sentence);
        String out = run(List.of("java", "-cp", own + System.getProperty("path.separator") + whole, test), 120);
        String heading = test + ", promise " + b.sentence.replaceFirst(": ", ", '") + "'";
        return out.contains(heading) ? "" : "its test does not see it";
    }

    private static String anyBlanks(String text) {
        StringBuilder all = new StringBuilder();
        for (String piece : text.strip().split("\\s+")) {
            all.append(all.length() == 0 ? "" : "\\s+").append(Pattern.quote(piece));
        }
        return all.toString();
    }

    private static String run(List<String> command, int seconds) throws Exception {
        Path out = Files.createTempFile("broken", ".out");
        Process p = new ProcessBuilder(command).redirectErrorStream(true).redirectOutput(out.toFile()).start();
        if (!p.waitFor(seconds, TimeUnit.SECONDS)) {
            p.destroyForcibly().waitFor();
        }
        String text = Files.readString(out);
        Files.delete(out);
        return text;
    }
}
