import java.io.IOException;
import java.lang.reflect.Method;
import java.lang.reflect.Modifier;
import java.net.URL;
import java.net.URLClassLoader;
import java.nio.file.Files;
import java.nio.file.Path;
import java.util.ArrayList;
import java.util.List;
import java.util.regex.Matcher;
import java.util.regex.Pattern;
import java.util.stream.Stream;
import javax.tools.ToolProvider;

/**
 * README.md shows calls with their answers: its lines are compiled as they stand there, and the answers must be
 * the class's own. It must show every call of the face, and name every test and how they are run.
 */
public final class ReadmeTest {
    private static final Pattern BLOCK = Pattern.compile("(?ms)^```java\n(.*?)^```$");
    private static final Pattern ASKED =
            Pattern.compile("(s\\.\\w+\\([^;]*\\)); +// (-?\\d+|NONE|NO|NO_FORMULA|throws \\w+)(: \\S.*)?");
    private static final Pattern SILENT = Pattern.compile("s\\.clear\\(\\);|feedText\\(s, \"[^\"]*\"\\);");
    private static final String FIRST = "DistanceSolver s = new DistanceSolver();";

    private static final List<String> CALLS = new ArrayList<>();
    private static final List<String> DUE = new ArrayList<>();

    public static void main(String[] args) throws Exception {
        String readme = Files.readString(Path.of("README.md"));
        List<?> got = answers(source(readme));
        Due.is("how many answers", got.size(), DUE.size());
        for (int i = 0; i < got.size() && i < DUE.size(); i++) {
            Due.is("README.md: " + CALLS.get(i), got.get(i).toString(), DUE.get(i));
        }
        allCallsAreShown(readme);
        allTestsAreNamed(readme);
        Due.end();
    }

    private static String source(String readme) {
        StringBuilder helpers = new StringBuilder();
        StringBuilder body = new StringBuilder();
        Matcher block = BLOCK.matcher(readme);
        while (block.find()) {
            if (block.group(1).startsWith("static ")) {
                helpers.append(block.group(1));
            } else {
                body.append("{\n");
                block.group(1).lines().forEach(line -> body.append(statement(line)).append('\n'));
                body.append("}\n");
            }
        }
        return "public final class Readme {\n" + helpers + "public static void run(java.util.List<String> got) {\n" + body
                + "}\n}\n";
    }

    /** A call whose answer is not told would not be looked at: so there is none but for those without one. */
    private static String statement(String line) {
        Matcher asked = ASKED.matcher(line);
        if (asked.matches()) {
            CALLS.add(asked.group(1));
            DUE.add(meant(asked.group(2)));
            return "try { got.add(\"\" + " + asked.group(1)
                    + "); } catch (RuntimeException e) { got.add(\"throws \" + e.getClass().getSimpleName()); }";
        }
        boolean silent = line.equals(FIRST) || SILENT.matcher(line).matches();
        Due.is("README.md: a line without an answer", silent ? "" : line, "");
        return line;
    }

    private static String meant(String answer) {
        switch (answer) {
            case "NONE":
                return "" + DistanceSolver.NONE;
            case "NO":
                return "" + DistanceSolver.NO;
            case "NO_FORMULA":
                return "" + DistanceSolver.NO_FORMULA;
            default:
                return answer;
        }
    }

    private static List<String> answers(String source) throws Exception {
        List<String> got = new ArrayList<>();
        Path folder = Files.createTempDirectory("readme");
        try {
            Path file = folder.resolve("Readme.java");
            Files.writeString(file, source);
            int exit = ToolProvider.getSystemJavaCompiler().run(null, null, null, "-cp",
                    System.getProperty("java.class.path"), "-d", folder.toString(), file.toString());
            Due.is("README.md: the compiler's exit code", exit, 0);
            if (exit == 0) {
                try (URLClassLoader loader = new URLClassLoader(new URL[] {folder.toUri().toURL()})) {
                    loader.loadClass("Readme").getMethod("run", List.class).invoke(null, got);
                }
            }
        } finally {
            remove(folder);
        }
        return got;
    }

    private static void remove(Path folder) throws IOException {
        try (Stream<Path> files = Files.list(folder)) {
            for (Path file : files.toList()) {
                Files.delete(file);
            }
        }
        Files.delete(folder);
    }

    private static void allCallsAreShown(String readme) {
        for (Method m : DistanceSolver.class.getDeclaredMethods()) {
            if (Modifier.isPublic(m.getModifiers())) {
                Due.is("README.md shows " + m.getName(), readme.contains("\ns." + m.getName() + "(") ? 1 : 0, 1);
            }
        }
    }

    private static void allTestsAreNamed(String readme) throws IOException {
        Due.is("README.md tells how the tests are run", readme.contains("\n    .ci/run\n") ? 1 : 0, 1);
        try (Stream<Path> files = Files.list(Path.of("src/test/java"))) {
            for (Path file : files.toList()) {
                String name = file.getFileName().toString().replace(".java", "");
                Due.is("README.md names " + name, readme.contains("`" + name + "`") ? 1 : 0, 1);
            }
        }
    }
}
