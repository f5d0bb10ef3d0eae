import java.lang.reflect.Method;
import java.lang.reflect.Modifier;
import java.net.URL;
import java.net.URLClassLoader;
import java.nio.file.Files;
import java.nio.file.Path;
import java.util.List;
import java.util.regex.Matcher;
import java.util.regex.Pattern;
import javax.tools.ToolProvider;

/** Compiles and runs the examples of README.md: each answers what stands behind it, and no call is left out. */
public final class ReadmeTest {
    private static final Check check = new Check();
    private static final Pattern BLOCK = Pattern.compile("(?s)```java\\n(.*?)```");
    private static final Pattern ASKED =
        Pattern.compile("^(?:\\w+ (\\w+) = )?((?:town\\.|tell\\().*\\));\\s*// (-?\\d+|true|false): .*$");

    public static void main(String[] args) throws Exception {
        String readme = Files.readString(Path.of("README.md"));
        everyCallIsNamed(readme);
        Path dir = Files.createTempDirectory("readme");
        Path file = dir.resolve("ReadmeExamples.java");
        Files.writeString(file, examples(readme));
        int failed = ToolProvider.getSystemJavaCompiler().run(null, null, null, "-d", dir.toString(),
            "-cp", System.getProperty("java.class.path"), file.toString());
        check.due("the examples compile", 0, failed);
        if (failed == 0) {
            run(dir);
        }
        for (String made : List.of("ReadmeExamples.java", "ReadmeExamples.class")) {
            Files.deleteIfExists(dir.resolve(made));
        }
        Files.delete(dir);
        check.end("ReadmeTest");
    }

    private static void everyCallIsNamed(String readme) {
        String examples = String.join("\n", BLOCK.matcher(readme).results().map(m -> m.group(1)).toList());
        for (Method m : QuickestOut.class.getDeclaredMethods()) {
            if (Modifier.isPublic(m.getModifiers())) {
                check.due(m.getName() + " is in an example", true, examples.contains("town." + m.getName() + "("));
                check.due(m.getName() + " is in the table", true, readme.contains("`" + m.getName() + "`"));
            }
        }
    }

    /** One class of all examples: a block that is a method stands by itself, the others one behind another. */
    private static String examples(String readme) {
        StringBuilder methods = new StringBuilder();
        StringBuilder body = new StringBuilder();
        Matcher blocks = BLOCK.matcher(readme);
        int asked = 0;
        while (blocks.find()) {
            String block = blocks.group(1);
            if (block.startsWith("static ")) {
                methods.append(block);
                continue;
            }
            for (String line : block.split("\n")) {
                Matcher m = ASKED.matcher(line);
                if (m.matches()) {
                    asked++;
                    String got = m.group(1) == null ? m.group(2) : m.group(1);
                    body.append(m.group(1) == null ? "" : line + "\n");
                    body.append("rows.add(new Object[] {\"").append(m.group(2).replace("\"", "'")).append("\", ")
                        .append(m.group(3)).append(", ").append(got).append("});\n");
                } else {
                    body.append(line).append('\n');
                }
            }
        }
        check.due("many examples are found", true, asked >= 30);
        return "public final class ReadmeExamples {\n" + methods
            + "public static java.util.List<Object[]> answers() {\n"
            + "java.util.List<Object[]> rows = new java.util.ArrayList<>();\n" + body + "return rows;\n}\n}\n";
    }

    private static void run(Path dir) throws Exception {
        try (URLClassLoader loader = new URLClassLoader(new URL[] {dir.toUri().toURL()})) {
            List<?> rows = (List<?>) loader.loadClass("ReadmeExamples").getMethod("answers").invoke(null);
            for (Object each : rows) {
                Object[] row = (Object[]) each;
                check.due("README.md: " + row[0] + " (" + row[1] + ") answers " + row[2] + ", as told", true, row[1].equals(row[2]));
            }
        }
    }
}
