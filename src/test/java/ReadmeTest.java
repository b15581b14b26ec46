import java.io.ByteArrayOutputStream;
import java.io.IOException;
import java.io.PrintStream;
import java.lang.reflect.Method;
import java.lang.reflect.Modifier;
import java.net.URL;
import java.net.URLClassLoader;
import java.nio.charset.StandardCharsets;
import java.nio.file.Files;
import java.nio.file.Path;
import java.util.ArrayList;
import java.util.List;
import java.util.Set;
import java.util.TreeSet;
import java.util.regex.Matcher;
import java.util.regex.Pattern;
import java.util.stream.Stream;
import javax.tools.JavaCompiler;
import javax.tools.ToolProvider;

/** What README.md says: its example, its calls, its actions, its errors and its table of tests. */
public final class ReadmeTest {
    private static final Path README = Path.of("README.md");
    private static final Path DOCUMENT = Path.of("../shared/DOC.md");
    private static final Path TESTS = Path.of("src/test/java");
    private static final Pattern EXAMPLE = Pattern.compile("```java\n(.*?)```", Pattern.DOTALL);
    private static final Pattern PRINTED = Pattern.compile("println\\(office\\..*\\);\\s+// (-?\\d+): ");
    private static final Pattern CALL = Pattern.compile("(?m)^\\| `((\\w+)\\((.*?)\\))`( \\*)? \\|");
    private static final Pattern SIGNATURE = Pattern.compile("public int (\\w+)\\((.*)\\);");
    private static final Pattern PROMISE = Pattern.compile("(?m)^`int (\\w+)\\(.*\\)`: (.*)$");
    private static final Pattern TEST = Pattern.compile("(?m)^\\| `(\\w+Test)` \\|");

    private final Check c = new Check("ReadmeTest");
    private final String readme = read(README);

    private ReadmeTest() throws IOException {
    }

    public static void main(String[] args) throws Exception {
        ReadmeTest test = new ReadmeTest();
        test.example();
        test.calls();
        test.actions();
        test.errors();
        test.tests();
        test.c.end();
    }

    private static String read(Path file) throws IOException {
        return Files.readString(file);
    }

    private static List<String> all(Pattern pattern, String text, int group) {
        List<String> found = new ArrayList<>();
        Matcher matcher = pattern.matcher(text);
        while (matcher.find()) {
            found.add(matcher.group(group));
        }
        return found;
    }

    /** The example prints the numbers that stand behind its calls. */
    private void example() throws Exception {
        String program = all(EXAMPLE, readme, 1).get(0);
        List<String> due = all(PRINTED, program, 1);
        c.due("calls of the example", due.size(), program.split("println").length - 1);
        c.same("what the example prints", outputOf(program).strip(), String.join("\n", due));
    }

    private String outputOf(String program) throws Exception {
        Path folder = Files.createTempDirectory("readme");
        Path source = folder.resolve("Example.java");
        Files.writeString(source, program);
        JavaCompiler compiler = ToolProvider.getSystemJavaCompiler();
        int code = compiler.run(null, null, null, "-cp", System.getProperty("java.class.path"), "-d",
                folder.toString(), source.toString());
        c.due("the compiler on the example", code, 0);
        PrintStream usual = System.out;
        ByteArrayOutputStream printed = new ByteArrayOutputStream();
        try (URLClassLoader loader = new URLClassLoader(new URL[] {folder.toUri().toURL()})) {
            System.setOut(new PrintStream(printed, true, StandardCharsets.UTF_8));
            loader.loadClass("Example").getMethod("main", String[].class).invoke(null, (Object) new String[0]);
        } finally {
            System.setOut(usual);
            remove(folder);
        }
        return printed.toString(StandardCharsets.UTF_8).replace("\r\n", "\n");
    }

    private static void remove(Path folder) throws IOException {
        try (Stream<Path> files = Files.list(folder)) {
            for (Path file : files.toList()) {
                Files.delete(file);
            }
        }
        Files.delete(folder);
    }

    /** Each call of the face stands in the table, with its arguments by their names, in its order. */
    private void calls() throws IOException {
        List<String> face = new ArrayList<>();
        Matcher matcher = SIGNATURE.matcher(read(DOCUMENT));
        while (matcher.find()) {
            face.add(matcher.group(1) + "(" + matcher.group(2).replace("int ", "") + ")");
        }
        c.same("the calls", all(CALL, readme, 1).toString(), face.toString());
        Set<String> made = new TreeSet<>();
        for (Method method : WalkFrames.class.getDeclaredMethods()) {
            if (Modifier.isPublic(method.getModifiers())) {
                made.add(method.getName());
            }
        }
        c.same("the calls of the class", new TreeSet<>(all(CALL, readme, 2)).toString(), made.toString());
    }

    /** A star stands beside each call that the document calls an action, and beside no other. */
    private void actions() throws IOException {
        List<String> actions = new ArrayList<>();
        Matcher promise = PROMISE.matcher(read(DOCUMENT));
        while (promise.find()) {
            if (promise.group(2).matches(".*This is (an|one) action\\.")) {
                actions.add(promise.group(1));
            }
        }
        List<String> starred = new ArrayList<>();
        Matcher call = CALL.matcher(readme);
        while (call.find()) {
            if (call.group(4) != null) {
                starred.add(call.group(2));
            }
        }
        c.same("the actions", starred.toString(), actions.toString());
    }

    private void errors() throws IllegalAccessException, NoSuchFieldException {
        for (String name : new String[] {"INVALID_ARGUMENT", "ILLEGAL_STATE", "CAPACITY_EXCEEDED", "NONE"}) {
            String told = "`" + name + "` (" + WalkFrames.class.getField(name).getInt(null) + ")";
            c.due("README.md says " + told, readme.contains(told) ? 1 : 0, 1);
        }
    }

    /** The table names each test of the project, and no other. */
    private void tests() throws IOException {
        Set<String> there = new TreeSet<>();
        try (Stream<Path> files = Files.list(TESTS)) {
            for (Path file : files.toList()) {
                String name = file.getFileName().toString();
                if (name.endsWith("Test.java")) {
                    there.add(name.substring(0, name.length() - ".java".length()));
                }
            }
        }
        c.same("the tests", new TreeSet<>(all(TEST, readme, 1)).toString(), there.toString());
    }
}
