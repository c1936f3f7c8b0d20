import java.io.IOException;
import java.lang.reflect.Method;
import java.net.URL;
import java.net.URLClassLoader;
import java.nio.file.Files;
import java.nio.file.Path;
import java.util.Comparator;
import java.util.List;
import java.util.Set;
import java.util.TreeSet;
import java.util.regex.Matcher;
import java.util.regex.Pattern;
import java.util.stream.Stream;
import javax.tools.ToolProvider;

/** Compiles the Java of README.md as one program and runs it: each call must answer what is said behind it. */
public final class ReadmeTest {
    private static final String PAGE = "README.md";
    private static final String NAME = "ReadmeProgram";
    private static final Pattern CALL = Pattern.compile("x\\.(\\w+)\\((.*)\\);\\s*// (-?\\d+|[A-Z]+)\\b.*");
    private static final Sheet S = new Sheet();
    private static final Set<String> SHOWN = new TreeSet<>();

    /** The program on the page calls this. */
    public static void due(String call, long got, long want) {
        S.due(call, got, want);
    }

    private static String program(List<String> page) {
        StringBuilder text = new StringBuilder("public class " + NAME + " { public static void main() {\n");
        boolean isJava = false;
        for (String line : page) {
            if (line.startsWith("```")) {
                isJava = line.equals("```java");
            } else if (isJava) {
                text.append(statement(line)).append('\n');
            }
        }
        return text.append("} }\n").toString();
    }

    private static String statement(String line) {
        Matcher call = CALL.matcher(line);
        if (!call.matches()) {
            S.holds("an answer is said behind " + line, !line.startsWith("x."));
            return line;
        }
        SHOWN.add(call.group(1));
        String told = call.group(1) + "(" + call.group(2) + ")";
        String want = call.group(3).matches("[A-Z]+") ? "LaughDrive." + call.group(3) : call.group(3);
        return "ReadmeTest.due(\"" + told + "\", x." + told + ", " + want + ");";
    }

    private static void run(String text, Path place) throws Exception {
        Path source = place.resolve(NAME + ".java");
        Files.writeString(source, text);
        int failed = ToolProvider.getSystemJavaCompiler().run(null, null, null,
            "-proc:none", "-cp", System.getProperty("java.class.path"), "-d", place.toString(), source.toString());
        S.due("compiling it", failed, 0);
        if (failed == 0) {
            try (URLClassLoader loader = new URLClassLoader(new URL[] {place.toUri().toURL()})) {
                loader.loadClass(NAME).getMethod("main").invoke(null);
            }
        }
    }

    /** Each call of the face is shown, but those that answer what nobody works out by hand. */
    private static void allCallsAreShown() {
        for (Method m : LaughDrive.class.getMethods()) {
            if (m.getDeclaringClass() == LaughDrive.class && !m.getName().equals("digest")) {
                S.holds(m.getName() + " is shown", SHOWN.contains(m.getName()));
            }
        }
    }

    private static void clear(Path place) throws IOException {
        try (Stream<Path> files = Files.walk(place)) {
            for (Path file : files.sorted(Comparator.reverseOrder()).toList()) { Files.delete(file); }
        }
    }

    public static void main(String[] args) throws Exception {
        Path place = Files.createTempDirectory("readme");
        try {
            run(program(Files.readAllLines(Path.of(PAGE))), place);
        } finally {
            clear(place);
        }
        allCallsAreShown();
        S.close("ReadmeTest");
    }
}
