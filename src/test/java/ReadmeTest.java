import java.net.URL;
import java.net.URLClassLoader;
import java.nio.file.Files;
import java.nio.file.Path;
import java.util.List;
import java.util.function.BiConsumer;
import java.util.regex.Matcher;
import java.util.regex.Pattern;
import java.util.stream.Stream;
import javax.tools.JavaCompiler;
import javax.tools.ToolProvider;

/**
 * The examples of README.md, compiled and run as they stand there, one behind the other: a call
 * whose line has a number behind its // must answer that number.
 */
public final class ReadmeTest extends Checks {
    private static final Pattern EXAMPLE = Pattern.compile("(?s)```java\n(.*?)```");
    private static final Pattern ANSWERED = Pattern.compile("\\s*(x\\.\\w+\\(.*\\));\\s*// (-?\\d+)\\b.*");
    private static final Pattern TOLD = Pattern.compile("\\s*x\\..*//.*");
    private static final List<String> FACE = List.of("dancer", "call", "exchanges", "turns", "wants", "joins",
        "backwards", "gives", "home", "of", "on", "at", "tells", "finds", "found", "rows", "plans", "scraps",
        "judges", "planned", "count", "type", "clear", "does", "back", "told", "digest");

    public static void main(String[] args) throws Exception {
        about("README.md");
        String readme = Files.readString(Path.of("README.md"));
        everyCallIsNamed(readme);
        everyTestIsNamed(readme);
        examples(readme);
        end();
    }

    private static void everyCallIsNamed(String readme) {
        for (String name : FACE) {
            due("names `" + name + "`", readme.contains("`" + name + "`") ? 1 : 0, 1);
        }
    }

    private static void everyTestIsNamed(String readme) throws Exception {
        try (Stream<Path> files = Files.list(Path.of("src/test/java"))) {
            for (Path file : files.toList()) {
                String name = file.getFileName().toString().replace(".java", "");
                due("names `" + name + "`", readme.contains("`" + name + "`") ? 1 : 0, 1);
            }
        }
    }

    private static void examples(String readme) throws Exception {
        StringBuilder code = new StringBuilder("public final class Examples {\n")
            .append("public static void run(java.util.function.BiConsumer<String, long[]> due) {\n");
        int examples = 0;
        Matcher example = EXAMPLE.matcher(readme);
        while (example.find()) {
            examples++;
            for (String line : example.group(1).split("\n")) {
                code.append(withAnswerLookedAt(line)).append('\n');
            }
        }
        due("examples", examples, 2);
        runCompiled(code.append("}\n}\n").toString());
    }

    private static String withAnswerLookedAt(String line) {
        Matcher answered = ANSWERED.matcher(line);
        if (answered.matches()) {
            String call = answered.group(1);
            return "due.accept(\"" + call + "\", new long[] {" + call + ", " + answered.group(2) + "});";
        }
        if (TOLD.matcher(line).matches()) {
            fail("no number behind the // of: " + line);
        }
        return line;
    }

    private static void runCompiled(String code) throws Exception {
        Path out = Files.createTempDirectory("readme");
        Path source = Files.writeString(out.resolve("Examples.java"), code);
        String classes = System.getProperty("java.class.path");
        JavaCompiler compiler = ToolProvider.getSystemJavaCompiler();
        BiConsumer<String, long[]> due = (call, answers) -> due(call, answers[0], answers[1]);
        if (compiler.run(null, null, null, "-d", out.toString(), "-cp", classes, source.toString()) != 0) {
            fail("the examples do not compile");
        } else {
            try (URLClassLoader loader = new URLClassLoader(new URL[] {out.toUri().toURL()})) {
                loader.loadClass("Examples").getMethod("run", BiConsumer.class).invoke(null, due);
            }
        }
        Files.deleteIfExists(out.resolve("Examples.class"));
        Files.deleteIfExists(source);
        Files.deleteIfExists(out);
    }
}
