import java.io.IOException;
import java.lang.reflect.Field;
import java.lang.reflect.Method;
import java.lang.reflect.Modifier;
import java.nio.file.Files;
import java.nio.file.Path;
import java.util.ArrayList;
import java.util.List;
import java.util.Set;
import java.util.regex.Matcher;
import java.util.regex.Pattern;

/** What of LANGUAGE.md can be seen in the source or by reflection; FaceTest looks at its rule 1. */
public final class LanguageTest {
    private static final Path SOURCE = Path.of("src/main/java/ShakenTree.java");
    private static final Set<String> THROWN = Set.of("IllegalStateException", "IllegalArgumentException",
            "IndexOutOfBoundsException", "ArithmeticException", "UnsupportedOperationException",
            "NoSuchElementException", "RuntimeException");
    private static final Set<String> IMPORTS = Set.of("java.util.Arrays", "java.util.ArrayList", "java.util.List",
            "java.util.Iterator", "java.util.NoSuchElementException");
    private static final Set<String> OF_ARRAYS = Set.of("copyOf", "copyOfRange", "fill");
    private static final int MOST_LINES = 60;
    private static final int MOST_PARAMETERS = 7;
    private static final int MOST_FIELDS = 20;
    private static final int MOST_CLASSES = 12;

    public static void main(String[] args) throws IOException {
        String text = withoutTexts(Files.readString(SOURCE));
        oneFile(text);
        forbiddenWords(text);
        library(text);
        exceptions(text);
        methodLengths(text);
        List<Class<?>> all = new ArrayList<>(List.of(ShakenTree.class.getDeclaredClasses()));
        all.add(ShakenTree.class);
        Check.due("rule 11: some twelve classes", 1, all.size() <= MOST_CLASSES ? 1 : 0);
        for (Class<?> one : all) {
            fields(one, all);
            parameters(one);
        }
        Check.finish();
    }

    /** The source with all comments and all characters of texts left out. */
    private static String withoutTexts(String source) {
        return source.replaceAll("(?s)/\\*.*?\\*/", "").replaceAll("//.*", "").replaceAll("\"[^\"\n]*\"", "\"\"");
    }

    private static void none(String rule, String pattern, String text) {
        Matcher found = Pattern.compile(pattern).matcher(text);
        Check.due(rule + ": " + (found.find() ? found.group() : "none"), 0, found.reset().find() ? 1 : 0);
    }

    private static void oneFile(String text) throws IOException {
        none("no package line", "\\bpackage\\b", text);
        try (var files = Files.walk(Path.of("src/main"))) {
            Check.due("one file", 1, files.filter(Files::isRegularFile).count());
        }
    }

    private static void forbiddenWords(String text) {
        none("rule 2, no lambda", "->", text);
        none("rule 2, no method reference", "::", text);
        none("rule 3, no NaN", "\\bNaN\\b", text);
        none("rule 4, none of those in Exact", "\\w+Exact\\b", text);
        none("rule 5, no static initialiser", "\\bstatic\\s*\\{", text);
        none("rule 6", "\\b(finally|synchronized|assert|getMessage|equals|hashCode|toString)\\b", text);
        none("rule 6, no try with resources", "\\btry\\s*\\(", text);
        none("rule 6, no exceptions of our own", "\\bextends\\b", text);
        none("rule 9, no loop without an end", "while\\s*\\(\\s*true|for\\s*\\(\\s*;", text);
        none("rule 13", "\\b(Thread|Random|random|nanoTime|currentTimeMillis|getenv|File|Socket)\\b", text);
    }

    private static void library(String text) {
        Matcher found = Pattern.compile("\\bimport\\s+([\\w.*]+)").matcher(text);
        while (found.find()) {
            Check.due("rule 4, import of " + found.group(1), 1, IMPORTS.contains(found.group(1)) ? 1 : 0);
        }
        Matcher used = Pattern.compile("\\bArrays\\.(\\w+)\\(").matcher(text);
        while (used.find()) {
            Check.due("rule 4, Arrays." + used.group(1), 1, OF_ARRAYS.contains(used.group(1)) ? 1 : 0);
        }
        none("rule 4, System is there for arraycopy alone", "\\bSystem\\.(?!arraycopy\\b)\\w+", text);
        none("rule 4, no name is written out with its package", "\\bjava[x]?\\.(?!util\\.\\w+;)", text);
    }

    private static void exceptions(String text) {
        Matcher found = Pattern.compile("\\bthrow\\b([^;]*);").matcher(text);
        while (found.find()) {
            Matcher form = Pattern.compile("\\s+new (\\w+)\\((\"\")?\\)").matcher(found.group(1));
            Check.due("rule 6, throw" + found.group(1), 1, form.matches() && THROWN.contains(form.group(1)) ? 1 : 0);
        }
    }

    /** A method's first line is the one at its depth that opens a brace behind a bracket. */
    private static void methodLengths(String text) {
        String[] lines = text.split("\n");
        for (int k = 0; k < lines.length; k++) {
            Matcher first = Pattern.compile("( {4}| {8})(\\w.*\\)|\\w.*Exception) \\{").matcher(lines[k]);
            if (!first.matches()) {
                continue;
            }
            int end = k;
            while (end < lines.length - 1 && !lines[end].equals(first.group(1) + "}")) {
                end++;
            }
            Check.due("rule 11, length of" + lines[k], 1, end - k < MOST_LINES ? 1 : 0);
        }
    }

    private static void fields(Class<?> one, List<Class<?>> own) {
        int many = 0;
        for (Field f : one.getDeclaredFields()) {
            if (f.isSynthetic()) {
                continue;
            }
            boolean isStatic = Modifier.isStatic(f.getModifiers());
            boolean fine = isStatic
                    ? Modifier.isFinal(f.getModifiers()) && f.getType() == int.class
                    : isAllowed(f.getType(), own);
            Check.due("rules 3 and 5, " + one.getSimpleName() + "." + f.getName(), 1, fine ? 1 : 0);
            many += isStatic ? 0 : 1;
        }
        Check.due("rule 11, fields of " + one.getSimpleName(), 1, many <= MOST_FIELDS ? 1 : 0);
    }

    /** Of the types that rule 3 allows, those that the class uses. */
    private static boolean isAllowed(Class<?> type, List<Class<?>> own) {
        if (type == int.class || type == boolean.class || type == int[].class || type == int[][].class) {
            return true;
        }
        return own.contains(type.isArray() ? type.getComponentType() : type);
    }

    private static void parameters(Class<?> one) {
        for (Method m : one.getDeclaredMethods()) {
            Check.due("rule 11, parameters of " + m.getName(), 1, m.getParameterCount() <= MOST_PARAMETERS ? 1 : 0);
        }
    }
}
