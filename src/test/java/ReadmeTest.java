import java.io.ByteArrayOutputStream;
import java.io.File;
import java.io.IOException;
import java.io.PrintStream;
import java.lang.reflect.Method;
import java.lang.reflect.Modifier;
import java.net.URL;
import java.net.URLClassLoader;
import java.nio.charset.StandardCharsets;
import java.nio.file.Files;
import java.nio.file.Path;
import java.util.ArrayList;
import java.util.List;
import java.util.TreeSet;
import java.util.regex.MatchResult;
import java.util.regex.Pattern;
import java.util.stream.Collectors;
import java.util.stream.Stream;
import javax.tools.ToolProvider;

/** What README.md says is so: its example is run, and its tables are compared with what there is. */
public final class ReadmeTest {
    private static final Checker CHECKER = new Checker("ReadmeTest");
    private static final Pattern ANSWER = Pattern.compile("^ +((?:x\\.|draw\\().*); +// (-?[0-9]+): ");

    public static void main(String[] args) throws Exception {
        String text = Files.readString(Path.of("README.md"));
        example(text);
        calls(text);
        constants(text);
        commands(text);
        tests(text);
        CHECKER.finish();
    }

    private static List<MatchResult> all(String pattern, String text) {
        return Pattern.compile(pattern, Pattern.MULTILINE).matcher(text).results().collect(Collectors.toList());
    }

    /** Each line of the example that ends with "// ANSWER: .." prints what it answers. */
    private static void example(String text) throws Exception {
        String code = text.substring(text.indexOf("```java\n") + 8, text.indexOf("```\n", text.indexOf("```java\n") + 8));
        List<String[]> due = new ArrayList<>();
        StringBuilder printing = new StringBuilder();
        for (String line : code.split("\n")) {
            List<MatchResult> found = ANSWER.matcher(line).results().collect(Collectors.toList());
            if (found.isEmpty()) {
                printing.append(line).append('\n');
            } else {
                due.add(new String[] {found.get(0).group(1), found.get(0).group(2)});
                printing.append("System.out.println(").append(found.get(0).group(1)).append(");\n");
            }
        }
        String[] answers = answersOf(printing.toString());
        CHECKER.holds("the example shows many calls", due.size() >= 20);
        CHECKER.due("answers of the example", answers.length, due.size());
        for (int i = 0; i < Math.min(answers.length, due.size()); i++) {
            CHECKER.due("the example's " + due.get(i)[0], Integer.parseInt(answers[i]), Integer.parseInt(due.get(i)[1]));
        }
    }

    private static String[] answersOf(String code) throws Exception {
        Path folder = Files.createTempDirectory("readme");
        Path source = folder.resolve("Example.java");
        Files.writeString(source, code);
        int failed = ToolProvider.getSystemJavaCompiler().run(null, null, null, "-proc:none", "-cp",
                System.getProperty("java.class.path"), "-d", folder.toString(), source.toString());
        CHECKER.due("compiling the example", failed, 0);
        PrintStream screen = System.out;
        ByteArrayOutputStream printed = new ByteArrayOutputStream();
        try (URLClassLoader loader = new URLClassLoader(new URL[] {folder.toUri().toURL()})) {
            System.setOut(new PrintStream(printed, true, StandardCharsets.UTF_8));
            loader.loadClass("Example").getMethod("main", String[].class).invoke(null, (Object) new String[0]);
        } finally {
            System.setOut(screen);
            for (String name : List.of("Example.class", "Example.java", "")) {
                Files.deleteIfExists(folder.resolve(name));
            }
        }
        return printed.toString(StandardCharsets.UTF_8).split("\\R");
    }

    /** The tables of calls name each method once, with as many arguments as it has, and no other. */
    private static void calls(String text) {
        TreeSet<String> wanted = new TreeSet<>();
        for (Method method : FrameDeltas.class.getDeclaredMethods()) {
            if (Modifier.isPublic(method.getModifiers())) {
                wanted.add(method.getName() + " " + method.getParameterCount());
            }
        }
        List<String> found = new ArrayList<>();
        for (MatchResult row : all("^\\| `([a-zA-Z]+)\\(([^)]*)\\)` \\|", text)) {
            found.add(row.group(1) + " " + (row.group(2).isEmpty() ? 0 : row.group(2).split(", ").length));
        }
        CHECKER.due("calls in the tables", found.size(), wanted.size());
        CHECKER.holds("the calls " + found, wanted.equals(new TreeSet<>(found)));
    }

    private static void constants(String text) throws ReflectiveOperationException {
        List<MatchResult> rows = all("`([A-Z_]+)`(?: \\|)? \\(?(-[0-9]+)", text);
        CHECKER.due("constants", rows.size(), 4);
        for (MatchResult row : rows) {
            CHECKER.due(row.group(1), FrameDeltas.class.getField(row.group(1)).getInt(null), Integer.parseInt(row.group(2)));
        }
    }

    /** Each command of the table can be drawn with the least and the greatest numbers that it tells. */
    private static void commands(String text) {
        List<MatchResult> rows = all("^\\| `([a-z]+)([A-Z ]+);` \\|[^|]*\\| (-?[0-9]+) to ([0-9]+)", text);
        CHECKER.due("commands", rows.size(), 5);
        for (MatchResult row : rows) {
            int least = Integer.parseInt(row.group(3));
            int greatest = Integer.parseInt(row.group(4));
            for (int number = least - 1; number <= greatest + 1; number++) {
                Counted x = Checker.sized(4, 4);
                while (x.addKey() > 0) {
                    x.setCell(0, 1);
                }
                String command = row.group(1) + row.group(2).replaceAll("[A-Z]+", "" + number) + ";";
                CHECKER.holds(command, Checker.draw(x, command) == 1 == (number >= least && number <= greatest));
            }
        }
    }

    /** The table of tests names each file of a test, and no other. */
    private static void tests(String text) throws IOException {
        TreeSet<String> wanted = new TreeSet<>();
        try (Stream<Path> files = Files.list(Path.of("src/test/java"))) {
            files.map(f -> f.getFileName().toString()).filter(f -> f.endsWith("Test.java"))
                    .forEach(f -> wanted.add(f.replace(".java", "")));
        }
        List<String> found = new ArrayList<>();
        all("^\\| ([A-Za-z]+Test) \\|", text).forEach(row -> found.add(row.group(1)));
        CHECKER.holds("the tests " + found + " are " + wanted, wanted.equals(new TreeSet<>(found)));
        CHECKER.due("tests in the table", found.size(), wanted.size());
        CHECKER.holds("bash .ci/run is how they are run", text.contains("    bash .ci/run\n"));
        CHECKER.holds(".ci/run can be executed", new File(".ci/run").canExecute());
        for (MatchResult path : all("(?:src|\\.ci)/[A-Za-z/.]*[A-Za-z]", text)) {
            CHECKER.holds(path.group() + " is there", Files.exists(Path.of(path.group())));
        }
    }
}
