import java.io.IOException;
import java.lang.reflect.Method;
import java.net.URL;
import java.net.URLClassLoader;
import java.nio.file.Files;
import java.nio.file.Path;
import java.util.Comparator;
import java.util.List;
import java.util.Set;
import java.util.TreeSet;
import java.util.regex.Matcher;
import java.util.regex.Pattern;
import java.util.stream.Collectors;
import java.util.stream.Stream;
import javax.tools.ToolProvider;

/**
 * What README.md shows answers so: its Java is compiled as it stands there, one block behind the other,
 * only that a call behind which an answer stands is looked at.
 */
public final class ReadmeTest {
    private static final Pattern SHOWN = Pattern.compile("x\\.(\\w+)\\((.*)\\); +// (-?\\d+|[A-Z]+)(:.*)?");

    private final StringBuilder members = new StringBuilder();
    private final StringBuilder statements = new StringBuilder();
    private final Set<String> shown = new TreeSet<>();

    public static void main(String[] args) throws IOException, ReflectiveOperationException {
        ReadmeTest readme = new ReadmeTest();
        readme.read(Files.readAllLines(Path.of("README.md")));
        for (Method m : TonguesDealt.class.getDeclaredMethods()) {
            boolean isPublic = java.lang.reflect.Modifier.isPublic(m.getModifiers());
            Check.holds("README.md shows " + m.getName() + "()", !isPublic || readme.shown.contains(m.getName()));
        }
        readme.run();
        Check.end("ReadmeTest");
    }

    /** For the compiled lines. */
    public static void due(String call, long got, long want) {
        Check.due("README.md: " + call, got, want);
    }

    private void read(List<String> lines) {
        boolean inside = false;
        boolean member = false;
        for (String line : lines) {
            if (line.startsWith("```")) {
                inside = line.equals("```java");
                member = false;
                continue;
            }
            if (!inside) continue;
            member |= line.startsWith("static ");
            if (member) members.append(line).append('\n');
            else statements.append(statement(line)).append('\n');
        }
    }

    private String statement(String line) {
        Matcher m = SHOWN.matcher(line);
        if (!m.matches()) {
            Check.holds("README.md tells the answer of " + line, !line.startsWith("x."));
            return line;
        }
        shown.add(m.group(1));
        String call = m.group(1) + "(" + m.group(2) + ")";
        String want = m.group(3).matches("[A-Z]+") ? "TonguesDealt." + m.group(3) : m.group(3) + "L";
        return "ReadmeTest.due(\"" + call + "\", x." + call + ", " + want + ");";
    }

    private void run() throws IOException, ReflectiveOperationException {
        Path room = Files.createTempDirectory("readme");
        try {
            Path source = room.resolve("Shown.java");
            Files.writeString(source, "public final class Shown {\n" + members
                + "public static void show() {\n" + statements + "}\n}\n");
            int failed = ToolProvider.getSystemJavaCompiler().run(null, null, null, "-Xlint:all", "-Werror",
                "-cp", System.getProperty("java.class.path"), "-d", room.toString(), source.toString());
            Check.due("README.md compiles", failed, 0);
            if (failed != 0) return;
            try (URLClassLoader loader = new URLClassLoader(new URL[] {room.toUri().toURL()})) {
                loader.loadClass("Shown").getMethod("show").invoke(null);
            }
        } finally {
            remove(room);
        }
    }

    private static void remove(Path room) throws IOException {
        List<Path> all;
        try (Stream<Path> found = Files.walk(room)) {
            all = found.sorted(Comparator.reverseOrder()).collect(Collectors.toList());
        }
        for (Path path : all) Files.delete(path);
    }
}
