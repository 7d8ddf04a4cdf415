import java.lang.reflect.Constructor;
import java.lang.reflect.Field;
import java.lang.reflect.Method;
import java.lang.reflect.Modifier;
import java.util.Arrays;
import java.util.Set;
import java.util.TreeSet;

/** The public face is the document's, with nothing more (rule 1 of LANGUAGE.md). */
public final class FaceTest {
    private static final String[] FACE = {
        "int add() IllegalStateException",
        "int constant(int,int,int,int) IndexOutOfBoundsException,IllegalArgumentException,IllegalStateException",
        "int member(int,int,int) IndexOutOfBoundsException,IllegalArgumentException,IllegalStateException",
        "int code(int,int,int) IndexOutOfBoundsException,IllegalArgumentException,IllegalStateException",
        "void entry(int,boolean) IndexOutOfBoundsException",
        "void clear() ",
        "int fault() ",
        "int shake() IllegalStateException",
        "int count(boolean,int) IllegalArgumentException",
        "int pool(boolean,int) IndexOutOfBoundsException",
        "int constantAt(boolean,int,int,int) IndexOutOfBoundsException,IllegalArgumentException",
        "int memberAt(boolean,int,int) IndexOutOfBoundsException,IllegalArgumentException",
        "int codeAt(boolean,int,int) IndexOutOfBoundsException",
        "int moved(int) ",
        "int run(boolean,int,int,int) IndexOutOfBoundsException,IllegalArgumentException,"
                + "ArithmeticException,UnsupportedOperationException,IllegalStateException",
    };

    public static void main(String[] args) {
        int kind = ShakenTree.class.getModifiers();
        Check.due("public final", 1, Modifier.isPublic(kind) && Modifier.isFinal(kind) ? 1 : 0);
        Check.due("NONE", -1, ShakenTree.NONE);
        methods();
        fieldsAndConstructors();
        nestedClasses();
        Check.finish();
    }

    private static void methods() {
        Set<String> due = new TreeSet<>(Arrays.asList(FACE));
        Set<String> names = new TreeSet<>();
        for (String line : FACE) {
            names.add(line.substring(line.indexOf(' ') + 1, line.indexOf('(')));
        }
        for (Method m : ShakenTree.class.getDeclaredMethods()) {
            if (m.isSynthetic()) {
                continue;
            }
            if (Modifier.isPrivate(m.getModifiers())) {
                Check.due("private " + m.getName() + " has a public name", 0, names.contains(m.getName()) ? 1 : 0);
            } else {
                String told = told(m);
                Check.due("public " + told, 1, due.remove(told) && Modifier.isPublic(m.getModifiers()) ? 1 : 0);
            }
        }
        Check.due("methods that are not there: " + due, 0, due.size());
    }

    private static String told(Method m) {
        StringBuilder text = new StringBuilder(m.getReturnType().getName());
        text.append(' ').append(m.getName()).append('(');
        text.append(joined(m.getParameterTypes())).append(") ").append(joined(m.getExceptionTypes()));
        return text.toString();
    }

    private static String joined(Class<?>[] types) {
        StringBuilder text = new StringBuilder();
        for (Class<?> type : types) {
            text.append(text.length() == 0 ? "" : ",").append(type.getSimpleName());
        }
        return text.toString();
    }

    private static void fieldsAndConstructors() {
        for (Field f : ShakenTree.class.getDeclaredFields()) {
            boolean hidden = Modifier.isPrivate(f.getModifiers()) || f.getName().equals("NONE");
            Check.due("field " + f.getName() + " is hidden", 1, hidden ? 1 : 0);
        }
        Constructor<?>[] all = ShakenTree.class.getDeclaredConstructors();
        Check.due("constructors", 1, all.length);
        Check.due("its parameters", 0, all[0].getParameterCount());
        Check.due("it is public", 1, Modifier.isPublic(all[0].getModifiers()) ? 1 : 0);
    }

    private static void nestedClasses() {
        Class<?>[] inside = ShakenTree.class.getDeclaredClasses();
        Check.due("at most twelve classes", 1, inside.length <= 12 ? 1 : 0);
        for (Class<?> c : inside) {
            int kind = c.getModifiers();
            boolean fine = Modifier.isStatic(kind) && !Modifier.isPublic(kind) && !Modifier.isProtected(kind);
            Check.due(c.getSimpleName() + " is static and not public", 1, fine ? 1 : 0);
            Check.due(c.getSimpleName() + " has at most twenty fields", 1, c.getDeclaredFields().length <= 20 ? 1 : 0);
        }
    }
}
