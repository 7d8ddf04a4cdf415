import java.io.IOException;
import java.lang.reflect.Method;
import java.lang.reflect.Modifier;
import java.net.URL;
import java.net.URLClassLoader;
import java.nio.file.Files;
import java.nio.file.Path;
import java.util.Comparator;
import java.util.List;
import java.util.regex.Matcher;
import java.util.regex.Pattern;
import javax.tools.ToolProvider;

/** README.md holds: its example answers what it says, and it names every call and every test. */
public final class ReadmeTest {
    private static final Path README = Path.of("README.md");

    public static void main(String[] args) throws Exception {
        String text = Files.readString(README);
        namesEveryCall(text);
        namesEveryTest(text);
        Path folder = Files.createTempDirectory("readme");
        try {
            example(text, folder);
        } finally {
            remove(folder);
        }
        Check.finish();
    }

    private static void namesEveryCall(String text) {
        for (Method m : ShakenTree.class.getDeclaredMethods()) {
            if (Modifier.isPublic(m.getModifiers())) {
                boolean told = text.contains("| `" + m.getName() + "(");
                Check.due("README.md tells of " + m.getName(), 1, told ? 1 : 0);
            }
        }
    }

    private static void namesEveryTest(String text) throws IOException {
        try (var files = Files.list(Path.of("src/test/java"))) {
            for (Path file : files.toList()) {
                String name = file.getFileName().toString().replace(".java", "");
                if (name.endsWith("Test")) {
                    Check.due("README.md tells of " + name, 1, text.contains("| `" + name + "` |") ? 1 : 0);
                }
            }
        }
    }

    /** Compiles the example, with each line that says what it answers made into a check, and runs it. */
    private static void example(String text, Path folder) throws Exception {
        Matcher block = Pattern.compile("(?s)```java\n(.*?)```").matcher(text);
        if (!block.find()) {
            Check.due("README.md has an example", 1, 0);
            return;
        }
        Matcher answer = Pattern.compile("(?m)^(tree\\..*);\\s*// answers (-?\\d+).*$").matcher(block.group(1));
        long answers = answer.results().count();
        Check.due("the example says what it answers", 1, answers > 0 ? 1 : 0);
        String body = answer.reset().replaceAll("Example.due(\"$1\", $2, $1);");
        Path source = folder.resolve("Example.java");
        Files.writeString(source, "public class Example {\n"
                + "public static String wrong = \"\"; public static int seen = 0;\n"
                + "static void due(String call, int want, int got) {\n"
                + "seen++; if (want != got) { wrong += call + \" answered \" + got + \"; \"; } }\n"
                + "public static void tell() {\n" + body + "}\n}\n");
        int compiled = ToolProvider.getSystemJavaCompiler().run(null, null, null,
                "-cp", System.getProperty("java.class.path"), "-d", folder.toString(), source.toString());
        Check.due("the example compiles", 0, compiled);
        if (compiled == 0) {
            try (URLClassLoader loader = new URLClassLoader(new URL[] {folder.toUri().toURL()})) {
                Class<?> made = loader.loadClass("Example");
                made.getMethod("tell").invoke(null);
                Check.due("answers looked at", answers, made.getField("seen").getInt(null));
                String wrong = (String) made.getField("wrong").get(null);
                Check.due("the example: " + wrong, 0, wrong.length());
            }
        }
    }

    private static void remove(Path folder) throws IOException {
        List<Path> all;
        try (var files = Files.walk(folder)) {
            all = files.sorted(Comparator.reverseOrder()).toList();
        }
        for (Path file : all) {
            Files.delete(file);
        }
    }
}
