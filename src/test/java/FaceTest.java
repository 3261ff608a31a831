import java.io.IOException;
import java.lang.reflect.Constructor;
import java.lang.reflect.Field;
import java.lang.reflect.Method;
import java.lang.reflect.Modifier;
import java.nio.file.Files;
import java.nio.file.Path;
import java.util.Arrays;
import java.util.Set;
import java.util.TreeSet;
import java.util.regex.Matcher;
import java.util.regex.Pattern;

/** The public face, and those rules of LANGUAGE.md that can be seen from the class and its text. */
public final class FaceTest {
    private static final String[] METHODS = {
        "int row(int, int)", "int lay(int, int, int)", "int at(int, int)", "int tear(int)",
        "int copy(int, int, int, int, int)", "int mean(int)", "int text(int, int)",
        "int put(int, int, int)", "int fault(int)", "int town(int)", "int person(int, int)",
        "int mark(int, int)", "int deal(int)", "int noon()", "int sign(int, int)", "int undo(int)",
        "int keep(int)", "int on(int)", "int tells(int, int)", "int order(int, int, int)",
        "int needs(int, int)", "int crew()", "int reach(int)", "int crier()", "int signs(int, int)",
        "int odds(int, int, int)", "int part(int, int, int)", "int houses(int)", "int rule(int, int)",
        "int broken(int)", "int shouted(int)", "int calls(int)", "int lots(int, int)", "int asked()",
        "long upper()", "long lower()", "int count(int)", "int finding()", "int findings(int)",
        "long digest()"};
    private static final String[] CONSTANTS = {
        "BAD = -1", "FULL = -2", "FINDING = -3", "STATE = -4", "SPENT = -6", "NONE = -9"};
    private static final String FORBIDDEN =
        "\\b(throw|throws|try|catch|synchronized|assert|import|package|protected|volatile|native|finally"
        + "|float|double|var|hashCode|toString|\\w+Exact)\\b|->|::|@\\w+|\\bString\\b\\s*\\+|\"\\s*\\+|\\+\\s*\"";

    public static void main(String[] args) throws IOException, IllegalAccessException {
        face();
        classesInside();
        text();
        Check.end("FaceTest");
    }

    private static String signature(Method m) {
        String takes = Arrays.toString(Arrays.stream(m.getParameterTypes()).map(Class::getSimpleName).toArray());
        return m.getReturnType() + " " + m.getName() + "(" + takes.substring(1, takes.length() - 1) + ")";
    }

    private static void face() throws IllegalAccessException {
        int modifiers = TonguesDealt.class.getModifiers();
        Check.holds("public and final", Modifier.isPublic(modifiers) && Modifier.isFinal(modifiers));
        Set<String> methods = new TreeSet<>();
        Set<String> names = new TreeSet<>();
        for (Method m : TonguesDealt.class.getDeclaredMethods()) {
            if (Modifier.isPrivate(m.getModifiers())) continue;
            Check.holds(m + " is public, not static", m.getModifiers() == Modifier.PUBLIC);
            methods.add(signature(m));
            names.add(m.getName());
        }
        Check.holds("the methods are the document's", methods.equals(new TreeSet<>(Arrays.asList(METHODS))));
        for (Method m : TonguesDealt.class.getDeclaredMethods()) {
            boolean isPrivate = Modifier.isPrivate(m.getModifiers());
            Check.holds(m + " has a name of its own", !isPrivate || !names.contains(m.getName()));
        }
        Set<String> constants = new TreeSet<>();
        for (Field f : TonguesDealt.class.getDeclaredFields()) {
            boolean isStatic = Modifier.isStatic(f.getModifiers());
            Check.holds(f + " is final if static", !isStatic || Modifier.isFinal(f.getModifiers()));
            if (!Modifier.isPrivate(f.getModifiers())) constants.add(f.getName() + " = " + f.getInt(null));
        }
        Check.holds("the constants are the document's", constants.equals(new TreeSet<>(Arrays.asList(CONSTANTS))));
        Constructor<?>[] constructors = TonguesDealt.class.getDeclaredConstructors();
        Check.due("constructors", constructors.length, 1);
        Check.holds("a public one without arguments",
            constructors[0].getModifiers() == Modifier.PUBLIC && constructors[0].getParameterCount() == 0);
    }

    private static void classesInside() {
        Set<String> names = new TreeSet<>();
        for (Method m : TonguesDealt.class.getMethods()) names.add(m.getName());
        Class<?>[] inside = TonguesDealt.class.getDeclaredClasses();
        Check.holds("at most twelve classes", inside.length < 12);
        for (Class<?> c : inside) {
            Check.holds(c + " is static", Modifier.isStatic(c.getModifiers()));
            Check.holds(c + " has at most twenty fields", c.getDeclaredFields().length <= 20);
            for (Method m : c.getDeclaredMethods()) {
                Check.holds(m + " bears no name of the face", !names.contains(m.getName()));
                Check.holds(m + " takes at most seven", m.getParameterCount() <= 7);
            }
        }
    }

    private static void text() throws IOException {
        String source = Files.readString(Path.of("src/main/java/TonguesDealt.java"));
        Check.holds("signs 1 to 127 alone", source.chars().allMatch(c -> c > 0 && c < 128));
        String code = source.replaceAll("(?s)/\\*.*?\\*/", "").replaceAll("//[^\n]*", "");
        Matcher m = Pattern.compile(FORBIDDEN).matcher(code);
        while (m.find()) Check.holds("a word that LANGUAGE.md leaves out: " + m.group(), false);
        Matcher library = Pattern.compile("\\b([A-Z][a-z]\\w*)\\.(\\w+)\\(").matcher(code);
        Set<String> allowed = Set.of("System.arraycopy", "Integer.bitCount");
        while (library.find()) {
            String call = library.group(1) + "." + library.group(2);
            Check.holds(call + " is of the library that is left", allowed.contains(call));
        }
        int lines = 0;
        for (String line : source.split("\n")) {
            boolean begins = line.matches(" +[\\w\\[\\] ]+\\(.*\\) \\{") && !line.matches(" +(if|for|while|switch|else).*");
            lines = begins ? 0 : lines + 1;
            boolean ends = line.matches("    (    )?}");
            if (ends) Check.holds("a method of at most sixty lines, not " + lines, lines <= 60);
        }
    }
}
