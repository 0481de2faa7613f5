import java.io.IOException;
import java.lang.reflect.Method;
import java.net.URL;
import java.net.URLClassLoader;
import java.nio.file.Files;
import java.nio.file.Path;
import java.util.regex.Matcher;
import java.util.regex.Pattern;
import javax.tools.ToolProvider;

/** What README.md says of calls: its examples answer what stands behind them, and its table has the whole face. */
public final class ReadmeTest {
    private static final Path INTO = Path.of("build/readme");
    /** A call in an example, with the answer that stands behind it. */
    private static final Pattern ASKED = Pattern.compile("(x\\.\\w+\\(.*\\)); +// (-?\\d+): .*");
    private static final int FEWEST_ASKED = 20;

    /** The examples as a program that tells each answer which is another one. */
    private static String program(String readme, Due due) {
        StringBuilder body = new StringBuilder();
        int asked = 0;
        Matcher block = Pattern.compile("(?s)```java\n(.*?)```").matcher(readme);
        while (block.find()) {
            for (String line : block.group(1).split("\n")) {
                Matcher m = ASKED.matcher(line);
                if (m.matches()) {
                    asked++;
                    body.append("due.is(\"").append(m.group(1).replace("\"", "'")).append("\", ")
                        .append(m.group(1)).append(", ").append(m.group(2)).append(");\n");
                } else {
                    body.append(line).append('\n');
                }
            }
        }
        due.is("enough examples", asked >= FEWEST_ASKED ? 1 : 0, 1);
        return "public class Examples { public static void run(Due due) {\n" + body + "} }\n";
    }

    private static void runExamples(String program, Due due) throws Exception {
        Files.createDirectories(INTO);
        Path source = INTO.resolve("Examples.java");
        Files.writeString(source, program);
        int failed = ToolProvider.getSystemJavaCompiler().run(null, null, null, "-d", INTO.toString(),
            "-cp", System.getProperty("java.class.path"), source.toString());
        due.is("compiling the examples", failed, 0);
        if (failed == 0) {
            try (URLClassLoader loader = new URLClassLoader(new URL[] {INTO.toUri().toURL()})) {
                loader.loadClass("Examples").getMethod("run", Due.class).invoke(null, due);
            }
        }
    }

    private static void everyCallIsTold(String readme, Due due) {
        for (Method m : Script.face()) {
            Matcher row = Pattern.compile("\\| `" + m.getName() + "\\(([^)]*)\\)` \\|").matcher(readme);
            int told = !row.find() ? -1 : row.group(1).isEmpty() ? 0 : row.group(1).split(", ").length;
            due.is("numbers of " + m.getName(), told, m.getParameterCount());
            due.is("told once: " + m.getName(), row.find() ? 2 : 1, 1);
        }
    }

    private static void everyTestIsTold(String readme, Due due) throws IOException {
        try (var files = Files.list(Path.of("tests"))) {
            files.map(f -> f.getFileName().toString()).filter(f -> f.endsWith("Test.java")).forEach(f -> {
                String name = f.startsWith("Boundaries") ? "Boundaries..Test" : f.replace(".java", "");
                due.is("names " + f, readme.contains("`" + name + "`") ? 1 : 0, 1);
            });
        }
    }

    public static void main(String[] args) throws Exception {
        Due due = new Due();
        String readme = Files.readString(Path.of("README.md"));
        runExamples(program(readme, due), due);
        everyCallIsTold(readme, due);
        everyTestIsTold(readme, due);
        due.end();
    }
}
