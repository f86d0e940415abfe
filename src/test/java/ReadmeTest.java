import java.io.IOException;
import java.net.URL;
import java.net.URLClassLoader;
import java.nio.file.Files;
import java.nio.file.Path;
import java.util.List;
import java.util.regex.Matcher;
import java.util.regex.Pattern;
import java.util.stream.Stream;
import javax.tools.JavaCompiler;
import javax.tools.ToolProvider;

/** The examples of README.md are worked as they stand, and each answers what is told behind it; run in the project's folder. */
public final class ReadmeTest {
    private static final Check CHECK = new Check("ReadmeTest");
    private static final Pattern ANSWERED = Pattern.compile("(int \\w+ = )?(x\\..*);\\s+// (-?\\d+)\\b.*");
    private static final Pattern THROWN = Pattern.compile("x\\.place\\((.*)\\);\\s+// throws IllegalArgumentException");
    private static final List<String> FACE = List.of("file", "under", "act", "loader", "offer", "find", "define", "release",
            "below", "deploy", "upgrade", "move", "call", "value", "place", "told", "count");

    public static void main(String[] args) throws Exception {
        String readme = Files.readString(Path.of("README.md"));
        for (String method : FACE) {
            CHECK.due("an example of " + method, readme.contains("x." + method + "(") ? 1 : 0, 1);
        }
        Path folder = Files.createTempDirectory("readme");
        try {
            work(folder, program(readme));
        } finally {
            forget(folder);
        }
        CHECK.end();
    }

    /** The compiled examples say by this what they were answered. */
    public static void due(String call, long got, long want) {
        CHECK.due(call, got, want);
    }

    public static void dueNoPlace(ContractLoaders x, int contract, int i) {
        CHECK.dueNoPlace(x, contract, i);
    }

    private static String program(String readme) {
        StringBuilder all = new StringBuilder("public class Examples { public static void go() {\n");
        boolean inside = false;
        for (String line : readme.split("\n")) {
            if (line.startsWith("```")) {
                inside = line.equals("```java");
            } else if (inside) {
                all.append(asked(line)).append('\n');
            }
        }
        return all.append("} }\n").toString();
    }

    private static String asked(String line) {
        Matcher thrown = THROWN.matcher(line);
        if (thrown.matches()) {
            return "ReadmeTest.dueNoPlace(x, " + thrown.group(1) + ");";
        }
        Matcher answered = ANSWERED.matcher(line);
        if (!answered.matches()) {
            CHECK.due("an answer behind '" + line + "'", line.contains("new ContractLoaders()") ? 1 : 0, 1);
            return line;
        }
        String kept = answered.group(1) == null ? "" : answered.group(1).substring(4, answered.group(1).length() - 3);
        String call = "ReadmeTest.due(\"" + answered.group(2) + "\", ";
        return kept.isEmpty()
                ? call + answered.group(2) + ", " + answered.group(3) + "L);"
                : "int " + kept + " = " + answered.group(2) + "; " + call + kept + ", " + answered.group(3) + "L);";
    }

    private static void work(Path folder, String program) throws Exception {
        Path source = Files.writeString(folder.resolve("Examples.java"), program);
        JavaCompiler compiler = ToolProvider.getSystemJavaCompiler();
        int refused = compiler.run(null, null, null, "-cp", System.getProperty("java.class.path"), "-d", folder.toString(),
                source.toString());
        CHECK.due("the compiler on the examples", refused, 0);
        if (refused == 0) {
            try (URLClassLoader examples = new URLClassLoader(new URL[] {folder.toUri().toURL()})) {
                examples.loadClass("Examples").getMethod("go").invoke(null);
            }
        }
    }

    private static void forget(Path folder) throws IOException {
        try (Stream<Path> all = Files.list(folder)) {
            for (Path file : all.toList()) {
                Files.delete(file);
            }
        }
        Files.delete(folder);
    }
}
