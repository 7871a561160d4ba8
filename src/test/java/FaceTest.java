import java.lang.reflect.Constructor;
import java.lang.reflect.Field;
import java.lang.reflect.Method;
import java.lang.reflect.Modifier;
import java.nio.file.Files;
import java.nio.file.Path;
import java.util.ArrayList;
import java.util.Arrays;
import java.util.List;
import java.util.TreeSet;
import java.util.regex.Matcher;
import java.util.regex.Pattern;

/** The public face, and those rules of LANGUAGE.md that can be told from the class and its source. */
public final class FaceTest {
    private static final Checks c = new Checks("FaceTest");
    private static final Path SOURCE = Path.of("src/main/java/DrumCoder.java");
    private static final String[] FACE = {
        "feed(int,int,int,int,int)", "end(int)", "drum()", "program()", "fault(int)", "told(int)", "value(int)",
        "set(int,int)", "entry(int)", "run()", "ran(int)", "of(int,int)", "needed()", "spot(int)", "lay(int,int)",
        "spoil(int)", "time()", "place(int)", "mend()", "exchange()", "best(long)", "keep(int)", "take(int)",
        "longest(int,int,int,int)", "step(int,int)", "known(int)", "job(int,int)", "night()"};

    public static void main(String[] args) throws Exception {
        constants();
        methods();
        nestedClasses();
        String code = withoutComments(Files.readString(SOURCE));
        forbiddenWords(code);
        libraryCalls(code);
        lengths(code);
        c.finish();
    }

    private static void holds(String what, boolean holds) {
        c.due(what, holds ? 1 : 0, 1);
    }

    private static void constants() {
        c.due("NONE", DrumCoder.NONE, -1);
        c.due("RANGE", DrumCoder.RANGE, -2);
        c.due("FULL", DrumCoder.FULL, -3);
        c.due("STATE", DrumCoder.STATE, -4);
        for (Field f : DrumCoder.class.getDeclaredFields()) {
            boolean isFace = Arrays.asList("NONE", "RANGE", "FULL", "STATE").contains(f.getName());
            holds("field " + f.getName(), isFace == Modifier.isPublic(f.getModifiers())
                    && isFace != Modifier.isPrivate(f.getModifiers()));
            holds("static field is final: " + f.getName(),
                    !Modifier.isStatic(f.getModifiers()) || Modifier.isFinal(f.getModifiers()));
        }
    }

    private static void methods() {
        int ofClass = DrumCoder.class.getModifiers();
        holds("the class is public and final", Modifier.isPublic(ofClass) && Modifier.isFinal(ofClass));
        TreeSet<String> found = new TreeSet<>();
        TreeSet<String> names = new TreeSet<>();
        List<String> privates = new ArrayList<>();
        for (Method m : DrumCoder.class.getDeclaredMethods()) {
            List<String> types = new ArrayList<>();
            for (Class<?> type : m.getParameterTypes()) {
                types.add(type.getName());
            }
            if (Modifier.isPublic(m.getModifiers())) {
                found.add(m.getName() + "(" + String.join(",", types) + ")");
                names.add(m.getName());
                holds(m.getName() + " answers an int", m.getReturnType() == int.class);
            } else {
                holds(m.getName() + " is private", Modifier.isPrivate(m.getModifiers()));
                privates.add(m.getName());
            }
        }
        holds("public methods: " + found, found.equals(new TreeSet<>(Arrays.asList(FACE))));
        for (Class<?> inside : DrumCoder.class.getDeclaredClasses()) {
            for (Method m : inside.getDeclaredMethods()) {
                privates.add(m.getName());
            }
        }
        for (String name : privates) {
            holds("no other method bears the name " + name, !names.contains(name));
        }
        Constructor<?>[] made = DrumCoder.class.getDeclaredConstructors();
        holds("one public constructor without parameters", made.length == 1
                && made[0].getParameterCount() == 0 && Modifier.isPublic(made[0].getModifiers()));
    }

    private static void nestedClasses() {
        Class<?>[] inside = DrumCoder.class.getDeclaredClasses();
        holds("at most twelve classes", inside.length <= 11);
        for (Class<?> k : inside) {
            holds(k + " is static and not public", Modifier.isStatic(k.getModifiers())
                    && !Modifier.isPublic(k.getModifiers()) && !Modifier.isProtected(k.getModifiers()));
            int fields = 0;
            for (Field f : k.getDeclaredFields()) {
                boolean isStatic = Modifier.isStatic(f.getModifiers());
                fields += isStatic ? 0 : 1;
                holds(k + "." + f.getName() + " is final if static",
                        !isStatic || Modifier.isFinal(f.getModifiers()));
            }
            holds(k + " has at most twenty fields", fields <= 20);
            for (Method m : k.getDeclaredMethods()) {
                holds(m + " takes at most seven", m.getParameterCount() <= 7);
            }
        }
    }

    private static String withoutComments(String source) {
        return source.replaceAll("(?s)/\\*.*?\\*/", "").replaceAll("//[^\n]*", "");
    }

    private static void forbiddenWords(String code) {
        String[] words = {"throw", "throws", "try", "catch", "finally", "synchronized", "assert", "Thread", "Random",
            "->", "::", "package", "protected", "native", "volatile", "System\\.(?!arraycopy)\\w+"};
        for (String word : words) {
            String whole = Character.isLetter(word.charAt(0)) ? "\\b" + word + "\\b" : word;
            holds("no " + word, !Pattern.compile(whole).matcher(code).find());
        }
        List<String> imports = Arrays.asList("java.util.Arrays", "java.util.ArrayList", "java.util.List",
                "java.util.Iterator");
        Matcher m = Pattern.compile("import ([\\w.]+);").matcher(code);
        while (m.find()) {
            holds("import " + m.group(1), imports.contains(m.group(1)));
        }
        for (int i = 0; i < code.length(); i++) {
            if (code.charAt(i) > 126) {
                holds("sign " + (int) code.charAt(i), false);
            }
        }
    }

    private static void libraryCalls(String code) {
        List<String> ofArrays = Arrays.asList("copyOf", "copyOfRange", "fill");
        Matcher m = Pattern.compile("\\b(Arrays|Math|Integer|Long)\\.(\\w+)").matcher(code);
        while (m.find()) {
            holds(m.group(), m.group(1).equals("Arrays") ? ofArrays.contains(m.group(2)) : !m.group(2).endsWith("Exact"));
        }
        // Arrays.fill is for arrays of numbers: none of them is filled with a truth
        holds("no fill with truths", !Pattern.compile("Arrays\\.fill\\([^;]*(true|false)").matcher(code).find());
    }

    /** No method is longer than sixty lines. */
    private static void lengths(String code) {
        String[] lines = code.split("\n");
        int begun = -1;
        String indent = "";
        for (int i = 0; i < lines.length; i++) {
            Matcher head = Pattern.compile("^( {4}| {8})\\S.*\\) \\{$").matcher(lines[i]);
            if (begun < 0 && head.matches()) {
                begun = i;
                indent = head.group(1);
            } else if (begun >= 0 && lines[i].equals(indent + "}")) {
                holds("line " + begun + " begins a short method", i - begun < 60);
                begun = -1;
            }
        }
    }
}
