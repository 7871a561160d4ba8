import java.io.IOException;
import java.lang.reflect.Method;
import java.lang.reflect.Modifier;
import java.net.URL;
import java.net.URLClassLoader;
import java.nio.file.Files;
import java.nio.file.Path;
import java.util.ArrayList;
import java.util.List;
import java.util.regex.Matcher;
import java.util.regex.Pattern;
import java.util.stream.Stream;

/** README.md: the calls that it shows are compiled and made, and each answers what stands behind it. */
public final class ReadmeTest {
    private static final Checks c = new Checks("ReadmeTest");
    private static final Path PAGE = Path.of("README.md");
    private static final Path TESTS = Path.of("src/test/java");
    private static final Pattern BLOCK = Pattern.compile("(?s)```java\n(.*?)```");
    private static final Pattern CALL = Pattern.compile(
            "(?sm)^((?:x\\.\\w+|onTape)\\(.*?\\));[ ]*// (-?\\d+|NONE|RANGE|FULL|STATE)\\b[^\n]*\n");

    public static void main(String[] args) throws Exception {
        String page = Files.readString(PAGE);
        String program = programOf(page);
        List<String> calls = new ArrayList<>();
        List<Integer> got = new ArrayList<>();
        List<Integer> due = new ArrayList<>();
        Path out = Files.createTempDirectory("readme");
        try {
            make(program, out, calls, got, due);
        } finally {
            remove(out);
        }
        for (int i = 0; i < calls.size(); i++) {
            c.due(calls.get(i), got.get(i), due.get(i));
        }
        everyCallIsShown(calls);
        everyTestIsNamed(page);
        answersBelowZero(page);
        c.finish();
    }

    private static void holds(String what, boolean holds) {
        c.due(what, holds ? 1 : 0, 1);
    }

    /** One program of all that the page shows: methods stay methods, calls are written down with their answers. */
    private static String programOf(String page) {
        StringBuilder methods = new StringBuilder();
        StringBuilder body = new StringBuilder();
        Matcher block = BLOCK.matcher(page);
        while (block.find()) {
            if (block.group(1).startsWith("static ")) {
                methods.append(block.group(1));
            } else {
                body.append(statementsOf(block.group(1)));
            }
        }
        return "import java.util.List;\npublic final class ReadmeCalls {\n" + methods
                + "public static void all(List<String> calls, List<Integer> got, List<Integer> due) {\n" + body
                + "}\n}\n";
    }

    private static String statementsOf(String block) {
        StringBuilder statements = new StringBuilder();
        Matcher call = CALL.matcher(block);
        int from = 0;
        while (call.find()) {
            statements.append(plain(block.substring(from, call.start())));
            String answer = call.group(2);
            String due = Character.isLetter(answer.charAt(0)) ? "DrumCoder." + answer : answer;
            String name = call.group(1).replaceAll("\\s+", " ").replace("\"", "'");
            statements.append("calls.add(\"").append(name).append("\");\n");
            statements.append("got.add(").append(call.group(1)).append(");\n");
            statements.append("due.add(").append(due).append(");\n");
            from = call.end();
        }
        return statements.append(plain(block.substring(from))).toString();
    }

    /** What stands between calls with answers may only make the object: a call without its answer is a fault. */
    private static String plain(String between) {
        String line = between.strip();
        holds("README.md: '" + line + "' shows no answer",
                line.isEmpty() || line.equals("DrumCoder x = new DrumCoder();"));
        return line + "\n";
    }

    private static void make(String program, Path out, List<String> calls, List<Integer> got, List<Integer> due)
            throws Exception {
        Path source = out.resolve("ReadmeCalls.java");
        Files.writeString(source, program);
        int code = new ProcessBuilder("javac", "-cp", System.getProperty("java.class.path"), "-d", out.toString(),
                source.toString()).inheritIO().start().waitFor();
        c.due("javac of what README.md shows", code, 0);
        if (code != 0) {
            return;
        }
        try (URLClassLoader loader = new URLClassLoader(new URL[] {out.toUri().toURL()})) {
            Method all = loader.loadClass("ReadmeCalls").getMethod("all", List.class, List.class, List.class);
            all.invoke(null, calls, got, due);
        }
    }

    private static void remove(Path directory) throws IOException {
        try (Stream<Path> files = Files.list(directory)) {
            for (Path file : files.toList()) {
                Files.delete(file);
            }
        }
        Files.delete(directory);
    }

    private static void everyCallIsShown(List<String> calls) {
        for (Method method : DrumCoder.class.getDeclaredMethods()) {
            if (Modifier.isPublic(method.getModifiers())) {
                String begin = "x." + method.getName() + "(";
                holds("README.md shows " + method.getName(), calls.stream().anyMatch(s -> s.startsWith(begin)));
            }
        }
    }

    private static void everyTestIsNamed(String page) throws IOException {
        try (Stream<Path> files = Files.list(TESTS)) {
            for (Path file : files.toList()) {
                String name = file.getFileName().toString().replace(".java", "");
                holds("README.md names " + name, page.contains("`" + name + "`"));
            }
        }
        holds("README.md names .ci/run", page.contains("\n    .ci/run\n"));
    }

    private static void answersBelowZero(String page) {
        holds("README.md: NONE", page.contains("| " + DrumCoder.NONE + " | `DrumCoder.NONE` | There is none"));
        holds("README.md: RANGE", page.contains("| " + DrumCoder.RANGE + " | `DrumCoder.RANGE` | A number that can't be"));
        holds("README.md: FULL", page.contains("| " + DrumCoder.FULL + " | `DrumCoder.FULL` | No room"));
        holds("README.md: STATE", page.contains("| " + DrumCoder.STATE + " | `DrumCoder.STATE` | Not as things are"));
        holds("README.md: no number", page.contains("| " + Checks.NO_NUMBER + " | | There is none such"));
    }
}
