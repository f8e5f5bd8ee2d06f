import java.io.IOException;
import java.lang.reflect.Constructor;
import java.lang.reflect.Field;
import java.lang.reflect.Method;
import java.lang.reflect.Modifier;
import java.nio.file.Files;
import java.nio.file.Path;
import java.util.Arrays;
import java.util.List;
import java.util.Set;
import java.util.TreeSet;

/** The public face, and those rules of LANGUAGE.md that can be read off the class and its text. */
public final class FaceTest {
    private static final String ARGUMENT = "IllegalArgumentException";
    private static final String STATE = "IllegalStateException";
    private static final String UNSUPPORTED = "UnsupportedOperationException";
    private static final String INDEX = "IndexOutOfBoundsException";

    public static void main(String[] args) throws IOException {
        methods();
        constructorAndConstants();
        nothingElseIsVisible();
        nestedClasses();
        text();
        Check.done();
    }

    private static void methods() {
        Set<String> due = new TreeSet<>(List.of(
                "int box(int) " + ARGUMENT + " " + UNSUPPORTED,
                "int glue(int int int int) " + ARGUMENT + " " + STATE + " " + UNSUPPORTED,
                "int kern(int boolean) " + ARGUMENT + " " + UNSUPPORTED,
                "int penalty(int) " + STATE + " " + UNSUPPORTED,
                "int hyphen(int int int) " + ARGUMENT + " " + STATE + " " + UNSUPPORTED,
                "boolean keep(int)", "int items()", "void set(int int) " + ARGUMENT,
                "void wide(int int) " + ARGUMENT, "void around(int int int int int) " + ARGUMENT,
                "int breakUp() " + STATE + " " + UNSUPPORTED, "int pass()", "int nodes()",
                "int line(int int) " + INDEX, "long total(int) " + INDEX));
        Set<String> got = new TreeSet<>();
        for (Method m : LineBreaker.class.getDeclaredMethods()) {
            if (Modifier.isPublic(m.getModifiers())) {
                got.add((m.getReturnType() + " " + m.getName() + "(" + names(m.getParameterTypes()) + ") "
                        + names(m.getExceptionTypes())).trim());
            }
        }
        Check.same("methods", got.toString(), due.toString());
    }

    private static String names(Class<?>[] types) {
        return String.join(" ", Arrays.stream(types).map(Class::getSimpleName).toList());
    }

    private static void constructorAndConstants() {
        Check.same("final", Modifier.isFinal(LineBreaker.class.getModifiers()), true);
        Check.same("public", Modifier.isPublic(LineBreaker.class.getModifiers()), true);
        Constructor<?>[] constructors = LineBreaker.class.getDeclaredConstructors();
        Check.same("constructors", constructors.length, 1);
        Check.same("its parameters", constructors[0].getParameterCount(), 0);
        Check.same("public", Modifier.isPublic(constructors[0].getModifiers()), true);
        Set<String> got = new TreeSet<>();
        for (Field f : LineBreaker.class.getDeclaredFields()) {
            if (!Modifier.isPrivate(f.getModifiers())) {
                got.add(f.toGenericString());
            }
        }
        Check.same("fields", got.toString(), "[public static final int LineBreaker.FULL, "
                + "public static final int LineBreaker.NOTHING]");
    }

    private static void nothingElseIsVisible() {
        Set<String> open = new TreeSet<>();
        for (Method m : LineBreaker.class.getDeclaredMethods()) {
            if (Modifier.isPublic(m.getModifiers())) {
                open.add(m.getName());
            }
        }
        Check.same("public methods", open.size(), 15);
        for (Method m : LineBreaker.class.getDeclaredMethods()) {
            if (!Modifier.isPublic(m.getModifiers())) {
                Check.same(m + " is private", Modifier.isPrivate(m.getModifiers()), true);
                Check.same(m + " has a name of its own", open.contains(m.getName()), false);
            }
        }
    }

    private static void nestedClasses() {
        Class<?>[] nested = LineBreaker.class.getDeclaredClasses();
        Check.same("some twelve classes", nested.length <= 11, true);
        for (Class<?> c : nested) {
            Check.same(c + " is static", Modifier.isStatic(c.getModifiers()), true);
            Check.same(c + " is not public", Modifier.isPublic(c.getModifiers()), false);
            int fields = 0;
            for (Field f : c.getDeclaredFields()) {
                boolean isStatic = Modifier.isStatic(f.getModifiers());
                Check.same(f + " is no state", isStatic && !Modifier.isFinal(f.getModifiers()), false);
                fields += isStatic ? 0 : 1;
            }
            Check.same(c + " has some twenty fields", fields <= 20, true);
            for (Method m : c.getDeclaredMethods()) {
                Check.same(m + " has few parameters", m.getParameterCount() <= 7, true);
            }
        }
    }

    /** The class needs no catch, so that it can't catch what the machine throws. */
    private static void text() throws IOException {
        List<String> lines = Files.readAllLines(Path.of("src/main/java/LineBreaker.java"));
        List<String> refused = List.of("try {", "catch (", "finally {", "->", "::", "synchronized", "assert ",
                "package ", "Exact(", "System.exit", "System.out", "System.nanoTime", "Random", "Thread");
        int begun = 0;
        for (int i = 0; i < lines.size(); i++) {
            String line = lines.get(i);
            for (String word : refused) {
                boolean has = line.contains(word) && !line.strip().startsWith("*") && !line.contains("/**");
                Check.same("line " + (i + 1) + " has " + word, has, false);
            }
            if (line.startsWith("import ")) {
                Check.same("import", line, "import java.util.Arrays;");
            }
            if (line.matches(" {4}( {4})?[^ *}/].*\\) (throws .*)?\\{| {8,12}throws .*\\{")) {
                begun = i;
            }
            if (line.matches(" {4}( {4})?\\}")) {
                Check.same("the method that ends at line " + (i + 1) + " is short", i - begun <= 60, true);
            }
        }
    }
}
