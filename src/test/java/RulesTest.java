import java.io.IOException;
import java.lang.management.ManagementFactory;
import java.lang.reflect.Constructor;
import java.lang.reflect.Field;
import java.lang.reflect.Method;
import java.lang.reflect.Modifier;
import java.nio.file.Files;
import java.nio.file.Path;
import java.util.Arrays;
import java.util.Set;
import java.util.TreeSet;
import java.util.regex.Matcher;
import java.util.regex.Pattern;

/** What of LANGUAGE.md can be seen in the class and its text; and that calls make no objects. */
public final class RulesTest {
    private static final String SOURCE = "src/main/java/LaughDrive.java";
    private static final String FACE = "int letter(int)|int blank()|int fault()|int moor()|int peg(int,int)|int covert(int,int)"
        + "|int laugh(int,int)|int as(int,int)|int over(int,int)|int drive(int,int)|int put(int,int)|int feed(int,int)"
        + "|int arm(int,int)|int rear(int,int)|int stands(int,int,int)|int order(int,int)|int game(int,int)"
        + "|int see(int,int,int)|int forget()|int seasons(int,int,int)|int image()|int restore()|int count(int)|long digest()";
    private static final Sheet S = new Sheet();

    private static void faceIsThatOfTheDocument() {
        Class<?> c = LaughDrive.class;
        S.due("modifiers", c.getModifiers(), Modifier.PUBLIC | Modifier.FINAL);
        Set<String> open = new TreeSet<>();
        for (Method m : c.getDeclaredMethods()) {
            if (!Modifier.isPrivate(m.getModifiers())) {
                String types = String.join(",", Arrays.stream(m.getParameterTypes()).map(Class::getName).toList());
                open.add(m.getReturnType() + " " + m.getName() + "(" + types + ")");
                S.due(m.getName() + " is public alone", m.getModifiers(), Modifier.PUBLIC);
            }
        }
        S.holds("methods are those of the face: " + open, open.equals(new TreeSet<>(Arrays.asList(FACE.split("\\|")))));
        Set<String> constants = new TreeSet<>();
        for (Field f : c.getDeclaredFields()) {
            if (!Modifier.isPrivate(f.getModifiers())) { constants.add(f.toString()); }
        }
        Set<String> wanted = new TreeSet<>();
        for (String name : "NONE UNKNOWN OUTSIDE STATE FULL".split(" ")) {
            wanted.add("public static final int LaughDrive." + name);
        }
        S.holds("constants are those of the face: " + constants, constants.equals(wanted));
        Constructor<?>[] all = c.getDeclaredConstructors();
        S.due("constructors", all.length, 1);
        S.holds("constructor is public, takes nothing", all[0].getModifiers() == Modifier.PUBLIC && all[0].getParameterCount() == 0);
    }

    private static void classesKeepToTheRules() {
        Class<?>[] inside = LaughDrive.class.getDeclaredClasses();
        S.holds("some twelve classes", inside.length < 12);
        Set<String> face = new TreeSet<>();
        for (String call : FACE.split("\\|")) { face.add(call.replaceAll("^\\w+ |\\(.*", "")); }
        look(LaughDrive.class, face);
        for (Class<?> c : inside) {
            S.holds(c + " is private and static", Modifier.isPrivate(c.getModifiers()) && Modifier.isStatic(c.getModifiers()));
            look(c, face);
            for (Constructor<?> made : c.getDeclaredConstructors()) {
                S.holds(made + " is handed no part of what another one makes",
                    Arrays.stream(made.getParameterTypes()).allMatch(type -> type == int.class));
            }
        }
    }

    private static void look(Class<?> c, Set<String> face) {
        int fields = 0;
        for (Field f : c.getDeclaredFields()) {
            boolean isStatic = Modifier.isStatic(f.getModifiers());
            fields += isStatic ? 0 : 1;
            S.holds(f + " is final", !isStatic || Modifier.isFinal(f.getModifiers()));
            S.holds(f + " is a constant", !isStatic || f.getType() == int.class || f.getType() == String.class);
        }
        S.holds(c + " has some twenty fields", fields <= 20);
        for (Method m : c.getDeclaredMethods()) {
            S.holds(m + " has seven parameters at most", m.getParameterCount() <= 7);
            S.holds(m + " bears no name of the face", !Modifier.isPrivate(m.getModifiers()) || !face.contains(m.getName()));
        }
    }

    private static void textKeepsToTheRules(String text) {
        String code = text.replaceAll("(?s)/\\*.*?\\*/", " ").replaceAll("//[^\n]*", " ").replaceAll("\"[^\"\n]*\"", "\"\"");
        String never = "\\b(import|package|try|catch|throw|throws|finally|synchronized|assert|volatile|native|strictfp|yield"
            + "|var|record|protected|float|double|System|Object|Exception|\\w+Exact|hashCode|equals|toString|clone|while)\\b"
            + "|->|::|@|\\[\\]\\s*\\[|%\\s*=|static\\s*\\{";
        Matcher found = Pattern.compile(never).matcher(code);
        while (found.find()) { S.holds("no " + found.group() + " in the text", false); }
        S.due("one array is made", code.split("new int\\[", -1).length, 2);
        S.due("no other array", code.split("new \\w+\\[", -1).length, 2);
        for (char c : text.toCharArray()) { S.holds("sign " + (int) c, c == '\n' || c >= 32 && c < 127); }
        int opened = 0;
        int line = 0;
        for (String row : text.split("\n")) {
            line++;
            if (row.matches(" {4,8}\\S.*\\) \\{")) { opened = line; }
            if (row.matches(" {4,8}\\}")) { S.holds("the method at " + opened + " is short", line - opened < 60); }
        }
    }

    /** Run on all that a call may fill, so that rows which grow would show. */
    private static void callsMakeNoObjects() {
        com.sun.management.ThreadMXBean threads = (com.sun.management.ThreadMXBean) ManagementFactory.getThreadMXBean();
        long self = Thread.currentThread().getId();
        LaughDrive x = Sheet.on("987654;1234;l05,g14,c09,t31,k39,l22");
        long warm = everyCall(x);
        long before = threads.getThreadAllocatedBytes(self);
        for (int n = 0; n < 100; n++) { warm += everyCall(x); }
        long made = threads.getThreadAllocatedBytes(self) - before;
        S.holds("calls make next to nothing, but " + made + " bytes (" + warm + ")", made < 20000);
    }

    private static long everyCall(LaughDrive x) {
        long all = x.letter('9') + x.fault() + x.moor() + x.blank() + x.peg(0, 1) + x.covert(0, 1) + x.image();
        for (int what = 0; what <= 6; what++) { all += x.laugh(0, what); }
        all += x.as(0, 2) + x.over(0, 1) + x.drive(0, 1) + x.put(0, 1) + x.feed(0, 3) + x.arm(0, 4) + x.rear(0, 5);
        all += x.stands(0, 0, 10) + x.order(0, 10) + x.game(0, 1) + x.see(0, 0, 0) + x.seasons(60, 7, 0);
        return all + x.restore() + x.forget() + x.count(4) + x.digest();
    }

    public static void main(String[] args) throws IOException {
        faceIsThatOfTheDocument();
        classesKeepToTheRules();
        textKeepsToTheRules(Files.readString(Path.of(SOURCE)));
        callsMakeNoObjects();
        S.close("RulesTest");
    }
}
