import java.io.IOException;
import java.lang.reflect.Array;
import java.lang.reflect.Field;
import java.lang.reflect.Method;
import java.lang.reflect.Modifier;
import java.net.URL;
import java.net.URLClassLoader;
import java.nio.file.Files;
import java.nio.file.Path;
import java.util.ArrayList;
import java.util.Comparator;
import java.util.List;
import java.util.Set;
import java.util.TreeSet;
import java.util.regex.Matcher;
import java.util.regex.Pattern;
import java.util.stream.Stream;

/** What README.md says is so of the program: its examples are compiled and run. Started in the project's folder. */
public final class ReadmeTest {
    private static final Pattern BLOCK = Pattern.compile("(?s)```java\n(.*?)```");
    private static final Pattern EXAMPLE = Pattern.compile("((?:x\\.\\w+|tell)\\(.*\\));\\s*// (-?\\d+): .*");
    private static final Pattern ROW = Pattern.compile("(?m)^\\| `(\\w+)\\((.*?)\\)` \\|");

    private final Check check = new Check("readme");
    private final String page;

    private ReadmeTest(String page) {
        this.page = page;
    }

    public static void main(String[] args) throws Exception {
        ReadmeTest test = new ReadmeTest(Files.readString(Path.of("README.md")));
        test.examples();
        test.calls();
        test.constants();
        test.classes();
        test.tests();
        test.size();
        test.check.done();
    }

    // ---- examples

    /** Examples of each block are made a method of one class, in which each answer told is asked for. */
    private void examples() throws Exception {
        StringBuilder code = new StringBuilder("public final class Examples {\n");
        StringBuilder all = new StringBuilder();
        int blocks = 0;
        for (Matcher m = BLOCK.matcher(page); m.find();) {
            if (m.group(1).startsWith("static ")) {
                code.append(m.group(1));
            } else {
                blocks++;
                all.append("block").append(blocks).append("(got, calls, wants);\n");
                code.append("static void block").append(blocks).append(PARAMETERS).append(asked(m.group(1))).append("}\n");
            }
        }
        code.append("public static void all").append(PARAMETERS).append(all).append("}\n}\n");
        check.holds("there are examples", blocks >= 10);
        run(code.toString());
    }

    private static final String PARAMETERS = "(java.util.List<Integer> got, java.util.List<String> calls, java.util.List<Integer> wants) {\n";

    private String asked(String block) {
        StringBuilder out = new StringBuilder();
        for (String line : block.split("\n")) {
            Matcher m = EXAMPLE.matcher(line);
            if (m.matches()) {
                String call = m.group(1).replace("\\", "\\\\").replace("\"", "\\\"");
                out.append("got.add(").append(m.group(1)).append("); calls.add(\"").append(call);
                out.append("\"); wants.add(").append(m.group(2)).append(");\n");
            } else {
                check.holds("an example answers: " + line, line.equals("HuntedScent x = new HuntedScent();"));
                out.append(line).append('\n');
            }
        }
        return out.toString();
    }

    private void run(String code) throws Exception {
        Path dir = Files.createTempDirectory("readme");
        try {
            Path source = Files.writeString(dir.resolve("Examples.java"), code);
            String out = dir.toString(), path = System.getProperty("java.class.path");
            Process javac = new ProcessBuilder("javac", "-cp", path, "-d", out, source.toString()).inheritIO().start();
            boolean isCompiled = javac.waitFor() == 0;
            check.holds("the examples can be compiled", isCompiled);
            if (isCompiled) {
                answers(dir);
            }
        } finally {
            remove(dir);
        }
    }

    private void answers(Path dir) throws IOException, ReflectiveOperationException {
        List<Integer> got = new ArrayList<>(), wants = new ArrayList<>();
        List<String> calls = new ArrayList<>();
        try (URLClassLoader loader = new URLClassLoader(new URL[] {dir.toUri().toURL()})) {
            Method all = loader.loadClass("Examples").getMethod("all", List.class, List.class, List.class);
            all.invoke(null, got, calls, wants);
        }
        for (int i = 0; i < got.size(); i++) {
            check.due(calls.get(i), got.get(i), wants.get(i));
        }
        check.holds("examples of all calls, not " + missing(calls), missing(calls).isEmpty());
    }

    private static Set<String> missing(List<String> calls) {
        Set<String> names = new TreeSet<>(Set.of("feed", "end", "text"));
        for (String call : calls) {
            names.add(call.substring(call.indexOf('.') + 1, call.indexOf('(')));
        }
        Set<String> out = new TreeSet<>();
        for (Method m : face()) {
            if (!names.contains(m.getName())) {
                out.add(m.getName());
            }
        }
        return out;
    }

    private static void remove(Path dir) throws IOException {
        try (Stream<Path> files = Files.walk(dir)) {
            for (Path p : files.sorted(Comparator.reverseOrder()).toList()) {
                Files.delete(p);
            }
        }
    }

    // ---- tables

    private static List<Method> face() {
        List<Method> out = new ArrayList<>();
        for (Method m : HuntedScent.class.getDeclaredMethods()) {
            if (Modifier.isPublic(m.getModifiers())) {
                out.add(m);
            }
        }
        return out;
    }

    private void calls() {
        Set<String> due = new TreeSet<>(), told = new TreeSet<>();
        for (Method m : face()) {
            due.add(m.getName() + " of " + m.getParameterCount());
        }
        for (Matcher m = ROW.matcher(page); m.find();) {
            int parameters = m.group(2).isEmpty() ? 0 : m.group(2).split(", ").length;
            check.holds(m.group(1) + " is told once", told.add(m.group(1) + " of " + parameters));
        }
        check.holds("the calls are " + due + ", not " + told, due.equals(told));
    }

    private void constants() throws ReflectiveOperationException {
        int told = 0;
        for (Matcher m = Pattern.compile("(?m)^\\| `([A-Z]+)` (-\\d+) \\|").matcher(page); m.find();) {
            told++;
            check.due(m.group(1), HuntedScent.class.getField(m.group(1)).getInt(null), Integer.parseInt(m.group(2)));
        }
        check.due("constants", told, 4);
    }

    private void classes() {
        Set<String> due = new TreeSet<>(), told = new TreeSet<>();
        for (Class<?> c : HuntedScent.class.getDeclaredClasses()) {
            due.add(c.getSimpleName());
        }
        for (Matcher m = Pattern.compile("(?m)^\\| ([A-Z][a-z]+(?:, [A-Z][a-z]+)*) \\|").matcher(page); m.find();) {
            told.addAll(List.of(m.group(1).split(", ")));
        }
        check.holds("the classes inside are " + due + ", not " + told, due.equals(told));
    }

    private void tests() throws IOException {
        Set<String> due = new TreeSet<>(), told = new TreeSet<>();
        try (Stream<Path> files = Files.list(Path.of("src/test/java"))) {
            for (Path p : files.toList()) {
                String name = p.getFileName().toString().replace(".java", "");
                if (name.endsWith("Test")) {
                    due.add(name);
                }
            }
        }
        for (Matcher m = Pattern.compile("\\b[A-Z]\\w*Test\\b").matcher(page); m.find();) {
            told.add(m.group());
        }
        check.holds("the tests are " + due + ", not " + told, due.equals(told));
    }

    // ---- the room of an object

    private void size() throws ReflectiveOperationException {
        Matcher m = Pattern.compile("some ([\\d,]+) numbers").matcher(page);
        check.holds("the size of an object is told", m.find());
        int told = Integer.parseInt(m.group(1).replace(",", ""));
        int found = numbersOf(new HuntedScent(), new ArrayList<>());
        check.holds("an object has " + found + " numbers", Math.abs(found - told) <= 50);
    }

    /** Fields and elements of all that is reached, each object once. */
    private static int numbersOf(Object o, List<Object> seen) throws ReflectiveOperationException {
        if (o == null || seen.stream().anyMatch(s -> s == o)) {
            return 0;
        }
        seen.add(o);
        int sum = 0;
        if (o.getClass().isArray()) {
            sum = Array.getLength(o);
            for (int i = 0; i < Array.getLength(o) && !o.getClass().getComponentType().isPrimitive(); i++) {
                sum += numbersOf(Array.get(o, i), seen);
            }
            return sum;
        }
        for (Field f : o.getClass().getDeclaredFields()) {
            if (!Modifier.isStatic(f.getModifiers())) {
                f.setAccessible(true);
                sum += 1 + (f.getType().isPrimitive() ? 0 : numbersOf(f.get(o), seen));
            }
        }
        return sum;
    }
}
