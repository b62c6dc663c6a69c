import java.io.IOException;
import java.lang.reflect.Method;
import java.net.URL;
import java.net.URLClassLoader;
import java.nio.file.Files;
import java.nio.file.Path;
import java.util.ArrayList;
import java.util.List;
import java.util.Set;
import java.util.TreeSet;
import java.util.regex.Matcher;
import java.util.regex.Pattern;
import javax.tools.JavaCompiler;
import javax.tools.ToolProvider;

/** The calls that README.md shows are compiled, and answer as README.md tells; its numbers and its command are so. */
public final class ReadmeTest {
    private static final Path README = Path.of("README.md"), SCRIPT = Path.of(".ci/run");
    private static final Pattern CALL = Pattern.compile("^(turn\\.(\\w+)\\(.*\\)); +// (-?\\d+|[A-Z]+)(: .+)?$");
    private static final Check CHECK = new Check("readme");

    private final String text;

    private ReadmeTest(String text) {
        this.text = text;
    }

    public static void main(String[] args) throws IOException, ReflectiveOperationException {
        ReadmeTest test = new ReadmeTest(Files.readString(README));
        List<String> shown = test.shown();
        test.allOfTheFaceIsShown(shown);
        run(compiled(source(shown)));
        test.theNumbersAreSo();
        test.theCommandIsThere();
        CHECK.end();
    }

    /** What a line of README.md answers is told to this by the program that is made of it. */
    public static void due(String call, long got, long want) {
        CHECK.due(call, got, want);
    }

    /** The lines within the fences, one block behind another. */
    private List<String> shown() {
        List<String> shown = new ArrayList<>();
        boolean within = false;
        for (String line : text.split("\n")) {
            if (line.startsWith("```")) {
                CHECK.that("that '" + line + "' is a fence of Java", within ? line.equals("```") : line.equals("```java"));
                within = !within;
            } else if (within) {
                shown.add(line);
            }
        }
        CHECK.that("that the last fence is closed", !within);
        return shown;
    }

    private void allOfTheFaceIsShown(List<String> shown) {
        Set<String> calls = new TreeSet<>();
        for (String line : shown) {
            Matcher call = Pattern.compile("turn\\.(\\w+)\\(").matcher(line);
            if (call.find()) {
                calls.add(call.group(1));
                boolean counts = line.startsWith("turn.");
                CHECK.that("that '" + line + "' tells its answer", !counts || CALL.matcher(line).matches());
            }
        }
        for (Method method : WideTurn.class.getDeclaredMethods()) {
            if (java.lang.reflect.Modifier.isPublic(method.getModifiers())) {
                CHECK.that("that " + method.getName() + " is shown", calls.contains(method.getName()));
            }
        }
    }

    private static String source(List<String> shown) {
        StringBuilder source = new StringBuilder("public final class Shown {\n  public static void main(String[] a) {\n");
        for (String line : shown) {
            Matcher call = CALL.matcher(line);
            if (call.matches()) {
                String answer = call.group(3);
                String want = Character.isLetter(answer.charAt(0)) ? "WideTurn." + answer : answer;
                String told = call.group(1).replace("\"", "'").replace("\\", "/");
                source.append("    ReadmeTest.due(\"").append(told).append("\", ").append(call.group(1)).append(", ")
                        .append(want).append(");\n");
            } else {
                source.append("    ").append(line).append('\n');
            }
        }
        return source.append("  }\n}\n").toString();
    }

    private static Path compiled(String source) throws IOException {
        Path folder = Files.createTempDirectory("readme");
        Path file = folder.resolve("Shown.java");
        Files.writeString(file, source);
        JavaCompiler compiler = ToolProvider.getSystemJavaCompiler();
        CHECK.that("that there is a compiler", compiler != null);
        int failed = compiler == null ? 1 : compiler.run(null, null, null, "-proc:none", "-d", folder.toString(), "-cp",
                System.getProperty("java.class.path"), file.toString());
        CHECK.due("what is shown, compiled", failed, 0);
        return folder;
    }

    private static void run(Path folder) throws IOException, ReflectiveOperationException {
        Path shown = folder.resolve("Shown.class");
        if (Files.exists(shown)) {
            URL[] places = {folder.toUri().toURL()};
            try (URLClassLoader loader = new URLClassLoader(places, ReadmeTest.class.getClassLoader())) {
                Method main = loader.loadClass("Shown").getMethod("main", String[].class);
                main.invoke(null, (Object) new String[0]);
            }
        }
        Files.deleteIfExists(shown);
        Files.deleteIfExists(folder.resolve("Shown.java"));
        Files.deleteIfExists(folder);
    }

    private void theNumbersAreSo() throws ReflectiveOperationException {
        Matcher constant = Pattern.compile("`WideTurn\\.(\\w+)`, (-\\d+) \\|").matcher(text);
        int constants = 0;
        while (constant.find()) {
            constants++;
            int is = WideTurn.class.getField(constant.group(1)).getInt(null);
            CHECK.due(constant.group(1), Integer.parseInt(constant.group(2)), is);
        }
        CHECK.due("constants that are told", constants, 4);
        Matcher finding = Pattern.compile("(?m)^\\| (-\\d+) \\| finding (\\d):").matcher(text);
        int findings = 0;
        while (finding.find()) {
            findings++;
            CHECK.due("the order of the findings", Integer.parseInt(finding.group(2)), findings);
            CHECK.due("finding " + findings, Integer.parseInt(finding.group(1)), -1000010 - findings);
        }
        CHECK.due("findings that are told", findings, 5);
    }

    private void theCommandIsThere() {
        CHECK.that("that the command is told", text.contains("\n    sh " + SCRIPT + "\n"));
        CHECK.that("that the script can be run", Files.isExecutable(SCRIPT));
    }
}
