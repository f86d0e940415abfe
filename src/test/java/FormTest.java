import java.io.IOException;
import java.lang.reflect.Constructor;
import java.lang.reflect.Field;
import java.lang.reflect.Method;
import java.lang.reflect.Modifier;
import java.nio.file.Files;
import java.nio.file.Path;
import java.util.Set;
import java.util.TreeSet;

/** What can be seen from outside of the rules of LANGUAGE.md; run in the project's own folder. */
final class FormTest {
    private static final Check CHECK = new Check("FormTest");
    private static final Set<String> FACE = Set.of("file", "under", "act", "loader", "offer", "find", "define", "release",
            "below", "deploy", "upgrade", "move", "call", "value", "place", "told", "count");
    private static final String[] NEVER = {"catch", "finally", "synchronized", "assert ", "->", "::", "Double.", "Float.",
        "Exact(", "package ", "static {", "Object ", "hashCode", "toString", ".equals(", "System.out", "System.nano",
        "System.current", "Random", "Thread", "import ", "_VALUE"};

    public static void main(String[] args) throws IOException {
        face();
        insides();
        text();
        CHECK.end();
    }

    private static void face() {
        Set<String> shown = new TreeSet<>();
        for (Method m : ContractLoaders.class.getDeclaredMethods()) {
            if (!Modifier.isPrivate(m.getModifiers())) {
                shown.add(m.getName());
                CHECK.due("public " + m, Modifier.isPublic(m.getModifiers()) ? 1 : 0, 1);
            }
        }
        CHECK.due("the face's methods " + shown, shown.equals(FACE) ? 1 : 0, 1);
        Set<String> constants = new TreeSet<>();
        for (Field f : ContractLoaders.class.getDeclaredFields()) {
            if (!Modifier.isPrivate(f.getModifiers())) {
                constants.add(f.getName());
            }
        }
        CHECK.due("the face's constants " + constants, constants.equals(Set.of("BAD", "FULL", "NOT")) ? 1 : 0, 1);
        CHECK.due("constructors", ContractLoaders.class.getDeclaredConstructors().length, 1);
        for (Constructor<?> c : ContractLoaders.class.getDeclaredConstructors()) {
            CHECK.due("public " + c, Modifier.isPublic(c.getModifiers()) && c.getParameterCount() == 0 ? 1 : 0, 1);
        }
        CHECK.due("BAD", ContractLoaders.BAD, -1);
        CHECK.due("FULL", ContractLoaders.FULL, -2);
        CHECK.due("NOT", ContractLoaders.NOT, -3);
    }

    private static void insides() {
        inside(ContractLoaders.class);
        Class<?>[] all = ContractLoaders.class.getDeclaredClasses();
        CHECK.due("at most twelve classes, not " + (all.length + 1), all.length < 12 ? 1 : 0, 1);
        for (Class<?> c : all) {
            CHECK.due("static and not public " + c,
                    Modifier.isStatic(c.getModifiers()) && !Modifier.isPublic(c.getModifiers()) ? 1 : 0, 1);
            inside(c);
        }
    }

    private static void inside(Class<?> c) {
        int fields = 0;
        for (Field f : c.getDeclaredFields()) {
            if (Modifier.isStatic(f.getModifiers())) {
                CHECK.due("final " + f, Modifier.isFinal(f.getModifiers()) ? 1 : 0, 1);
            } else {
                fields++;
            }
        }
        CHECK.due("at most twenty fields in " + c, fields <= 20 ? 1 : 0, 1);
        for (Method m : c.getDeclaredMethods()) {
            CHECK.due("at most seven parameters " + m, m.getParameterCount() <= 7 ? 1 : 0, 1);
            boolean shown = Modifier.isPublic(m.getModifiers());
            CHECK.due("no name of the face " + m, shown || !FACE.contains(m.getName()) ? 1 : 0, 1);
        }
    }

    private static void text() throws IOException {
        String code = Files.readString(Path.of("src/main/java/ContractLoaders.java"));
        for (String word : NEVER) {
            CHECK.due("nowhere '" + word + "'", code.indexOf(word), -1);
        }
        CHECK.due("signs are plain", code.chars().allMatch(c -> c == '\n' || c >= 32 && c < 127) ? 1 : 0, 1);
    }
}
