import java.io.IOException;
import java.lang.reflect.Field;
import java.lang.reflect.Method;
import java.lang.reflect.Modifier;
import java.net.URL;
import java.net.URLClassLoader;
import java.nio.file.Files;
import java.nio.file.Path;
import java.util.ArrayList;
import java.util.List;
import java.util.function.IntConsumer;
import java.util.regex.Matcher;
import java.util.regex.Pattern;
import java.util.stream.Stream;
import javax.tools.JavaCompiler;
import javax.tools.ToolProvider;

/** README.md: its examples compile, each answer that it names is the class's, and it names every call and every test. */
public final class ReadmeTest {
    private static final Path PAGE = Path.of("README.md");
    private static final Path TESTS = Path.of("src/test/java");
    private static final String ANSWER = "(-?\\d+|NONE|UNKNOWN|OUTSIDE|NOT|FULL)";
    private static final Pattern CALL = Pattern.compile("foot\\.(\\w+\\(.*\\)); +// " + ANSWER + "(:.*)?");
    private static final Pattern TEXT_ROW = Pattern.compile("\\| `([^`]*)` \\| (-?\\d+) \\| (\\d+|NONE) \\|.*");
    private static final Pattern VALUE_ROW = Pattern.compile("\\| `([A-Z]+)` \\| (-\\d+) \\|.*");
    private static final Pattern CLAUSE_ROW = Pattern.compile("\\| `([nopd][^`]*;)` \\|[^|]*\\|[^|]*\\|");

    public static void main(String[] args) throws Exception {
        List<String> page = Files.readAllLines(PAGE);
        examples(page);
        clauses(page);
        textsWithTheirFaults(page);
        values(page);
        namesEveryCall(String.join("\n", page));
        namesEveryTest(String.join("\n", page));
        Due.end();
    }

    private static void holds(String what, boolean is) {
        Due.due(what, 1, is ? 1 : 0);
    }

    private static int valueOf(String answer) throws ReflectiveOperationException {
        boolean isName = Character.isUpperCase(answer.charAt(0));
        return isName ? RulerFoot.class.getField(answer).getInt(null) : Integer.parseInt(answer);
    }

    // ---- the examples

    /** The lines of all examples: each goes on from the one ahead of it. */
    private static List<String> exampleLines(List<String> page) {
        List<String> lines = new ArrayList<>();
        boolean inside = false;
        for (String line : page) {
            if (line.startsWith("```")) {
                inside = line.equals("```java");
            } else if (inside) {
                lines.add(line);
            }
        }
        return lines;
    }

    private static void examples(List<String> page) throws Exception {
        List<String> lines = exampleLines(page);
        List<String> calls = new ArrayList<>();
        List<Integer> named = new ArrayList<>();
        List<String> compared = new ArrayList<>();
        for (String line : lines) {
            Matcher call = CALL.matcher(line);
            if (call.matches()) {
                calls.add(call.group(1));
                named.add(valueOf(call.group(2)));
                compared.add("answer.accept(foot." + call.group(1) + ");");
            } else {
                // A call that stands by itself names its answer; those of a loop are many.
                holds("README.md names the answer of " + line, !line.startsWith("foot.") && !line.contains("//"));
                compared.add(line);
            }
        }
        holds("README.md shows calls with their answers", calls.size() >= 10);
        List<Integer> got = answersOf(lines, compared);
        Due.due("answers of README.md's example", named.size(), got.size());
        for (int i = 0; i < Math.min(named.size(), got.size()); i++) {
            Due.due("README.md: " + calls.get(i), named.get(i), got.get(i));
        }
    }

    private static List<Integer> answersOf(List<String> written, List<String> compared) throws Exception {
        List<Integer> answers = new ArrayList<>();
        Path folder = Files.createTempDirectory("readme");
        try {
            Path source = folder.resolve("ReadmeExample.java");
            List<String> program = new ArrayList<>();
            program.add("public final class ReadmeExample {");
            program.add("public static void asWritten() {");
            program.addAll(written);
            program.add("}");
            program.add("public static void compared(java.util.function.IntConsumer answer) {");
            program.addAll(compared);
            program.add("}");
            program.add("}");
            Files.write(source, program);
            if (compiles(source, folder)) {
                run(folder, answers::add);
            }
        } finally {
            remove(folder);
        }
        return answers;
    }

    private static boolean compiles(Path source, Path folder) {
        JavaCompiler compiler = ToolProvider.getSystemJavaCompiler();
        holds("this java has a compiler", compiler != null);
        if (compiler == null) {
            return false;
        }
        int code = compiler.run(null, System.out, System.out, "-cp", System.getProperty("java.class.path"), "-d",
                folder.toString(), source.toString());
        Due.due("README.md's example compiles: exit code", 0, code);
        return code == 0;
    }

    private static void run(Path folder, IntConsumer answer) throws Exception {
        try (URLClassLoader loader = new URLClassLoader(new URL[] {folder.toUri().toURL()})) {
            Class<?> example = loader.loadClass("ReadmeExample");
            example.getMethod("asWritten").invoke(null);
            example.getMethod("compared", IntConsumer.class).invoke(null, answer);
        }
    }

    private static void remove(Path folder) throws IOException {
        List<Path> files;
        try (Stream<Path> all = Files.list(folder)) {
            files = all.toList();
        }
        for (Path file : files) {
            Files.delete(file);
        }
        Files.delete(folder);
    }

    // ---- the tables

    /** Each clause that is shown can stand behind a rod's. */
    private static void clauses(List<String> page) {
        int rows = 0;
        for (String line : page) {
            Matcher row = CLAUSE_ROW.matcher(line);
            if (row.matches()) {
                rows++;
                Due.due("README.md: realm() of r24 1;" + row.group(1), 24,
                        Due.tell(new RulerFoot(), "r24 1;" + row.group(1)));
            }
        }
        Due.due("README.md's clauses beside the rod's", 4, rows);
    }

    private static void textsWithTheirFaults(List<String> page) throws Exception {
        int rows = 0;
        int kinds = 0;
        for (String line : page) {
            Matcher row = TEXT_ROW.matcher(line);
            if (row.matches() && !VALUE_ROW.matcher(line).matches()) {
                rows++;
                RulerFoot foot = new RulerFoot();
                int answer = Integer.parseInt(row.group(2));
                kinds |= answer < -10 ? 1 << -10 - answer : 1;
                Due.due("README.md: realm() of " + row.group(1), answer, Due.tell(foot, row.group(1)));
                Due.due("README.md: fault() of " + row.group(1), valueOf(row.group(3)), foot.fault());
            }
        }
        holds("README.md shows texts: " + rows, rows >= 5);
        Due.due("README.md shows each fault, and none", 31, kinds);
    }

    private static void values(List<String> page) throws Exception {
        int rows = 0;
        for (String line : page) {
            Matcher row = VALUE_ROW.matcher(line);
            if (row.matches()) {
                rows++;
                Due.due("README.md: " + row.group(1), valueOf(row.group(1)), Integer.parseInt(row.group(2)));
            }
        }
        Due.due("README.md's constants", 5, rows);
    }

    private static void namesEveryCall(String page) {
        for (Method method : RulerFoot.class.getDeclaredMethods()) {
            if (Modifier.isPublic(method.getModifiers())) {
                Pattern named = Pattern.compile("`" + method.getName() + "\\("
                        + (method.getParameterCount() == 0 ? "" : "\\w+(, \\w+){" + (method.getParameterCount() - 1) + "}")
                        + "\\)`");
                holds("README.md names " + method.getName(), named.matcher(page).find());
            }
        }
        for (Field field : RulerFoot.class.getDeclaredFields()) {
            if (Modifier.isPublic(field.getModifiers())) {
                holds("README.md names " + field.getName(), page.contains("`" + field.getName() + "`"));
            }
        }
    }

    private static void namesEveryTest(String page) throws IOException {
        holds("README.md names the command that runs all tests", page.contains("\n.ci/run\n"));
        try (Stream<Path> files = Files.list(TESTS)) {
            for (Path file : files.toList()) {
                String name = file.getFileName().toString().replace(".java", "");
                holds("README.md names " + name, !name.endsWith("Test") || page.contains("`" + name + "`"));
            }
        }
    }
}
