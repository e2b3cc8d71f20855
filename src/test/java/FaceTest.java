import java.io.IOException;
import java.lang.management.ManagementFactory;
import java.lang.reflect.Constructor;
import java.lang.reflect.Field;
import java.lang.reflect.Method;
import java.lang.reflect.Modifier;
import java.nio.charset.StandardCharsets;
import java.nio.file.Files;
import java.nio.file.Path;
import java.util.Arrays;
import java.util.Set;
import java.util.TreeSet;
import java.util.regex.Matcher;
import java.util.regex.Pattern;

/** The public face, the rules of the language that can be looked up, and the room that calls take. */
public final class FaceTest {
    private static final String[] FACE = {
        "int row(int,int)", "int lay(int,int,int)", "int at(int,int)", "int tear(int)",
        "int copy(int,int,int,int,int)", "int mean(int)", "int text(int,int)", "int put(int,int,int)",
        "int fault(int)", "int board(int)", "int key(int,int)", "int mark(int,int)", "int reads(int)",
        "int press(int)", "int scan()", "int cut(int)", "int undo(int)", "int keep(int)", "int on(int)",
        "int told()", "int ghosts()", "int later(int)", "int would(int)", "int haunts(int)", "int right()",
        "int alike()", "int best()", "int kinds(int,int)", "int places(int,int)", "int test(int,int)",
        "int duel(int)", "int odds(int)", "int mid(int)", "int lots(int,int)", "int asked()", "long upper()",
        "long lower()", "int count(int)", "int finding()", "int findings(int)", "long digest()"};
    private static final int METHOD_LINES_MOST = 60, CLASSES_MOST = 12, FIELDS_MOST = 20, PARAMETERS_MOST = 7;
    private static final Checks c = new Checks("FaceTest");

    public static void main(String[] args) throws IOException, IllegalAccessException {
        face();
        constants();
        classes();
        source();
        room();
        c.end();
    }

    private static void face() {
        Set<String> seen = new TreeSet<>();
        Set<String> names = new TreeSet<>();
        for (Method m : StrayKeys.class.getDeclaredMethods()) {
            if (Modifier.isPublic(m.getModifiers())) {
                String types = Arrays.toString(m.getParameterTypes()).replaceAll("[\\[\\] ]", "");
                seen.add(m.getReturnType() + " " + m.getName() + "(" + types + ")");
                names.add(m.getName());
                c.yes(m + " is no static one", !Modifier.isStatic(m.getModifiers()));
            } else {
                c.yes(m + " is private", Modifier.isPrivate(m.getModifiers()));
            }
        }
        c.yes("the methods are those of the face: " + seen, seen.equals(new TreeSet<>(Arrays.asList(FACE))));
        for (Class<?> type : types()) {
            for (Method m : type.getDeclaredMethods()) {
                boolean own = type == StrayKeys.class && Modifier.isPublic(m.getModifiers());
                c.yes(m + " bears a name of its own", own || !names.contains(m.getName()));
                c.yes(m + " has few parameters", m.getParameterCount() <= PARAMETERS_MOST);
            }
        }
        Constructor<?>[] made = StrayKeys.class.getDeclaredConstructors();
        c.yes("one public constructor without parameters", made.length == 1 && made[0].getParameterCount() == 0
            && Modifier.isPublic(made[0].getModifiers()));
        c.yes("public, final", Modifier.isPublic(StrayKeys.class.getModifiers())
            && Modifier.isFinal(StrayKeys.class.getModifiers()));
    }

    private static Class<?>[] types() {
        Class<?>[] inside = StrayKeys.class.getDeclaredClasses();
        Class<?>[] all = Arrays.copyOf(inside, inside.length + 1);
        all[inside.length] = StrayKeys.class;
        return all;
    }

    private static void constants() throws IllegalAccessException {
        String[] names = {"BAD", "FULL", "FINDING", "STATE", "SPENT", "NONE"};
        int[] values = {-1, -2, -3, -4, -6, -9};
        int publicOnes = 0;
        for (Field f : StrayKeys.class.getDeclaredFields()) {
            if (Modifier.isPublic(f.getModifiers())) {
                publicOnes++;
                int k = Arrays.asList(names).indexOf(f.getName());
                c.yes(f + " is a constant of the face", k >= 0 && Modifier.isStatic(f.getModifiers())
                    && Modifier.isFinal(f.getModifiers()) && f.getType() == int.class && f.getInt(null) == values[k]);
            } else {
                c.yes(f + " is private", Modifier.isPrivate(f.getModifiers()));
            }
        }
        c.due("public constants", publicOnes, names.length);
    }

    private static void classes() {
        c.yes("few classes", types().length <= CLASSES_MOST);
        for (Class<?> type : types()) {
            int fields = 0;
            for (Field f : type.getDeclaredFields()) {
                boolean isStatic = Modifier.isStatic(f.getModifiers());
                fields += isStatic ? 0 : 1;
                c.yes(f + " is final, if static", !isStatic || Modifier.isFinal(f.getModifiers()));
            }
            c.yes(type + " has few fields", fields <= FIELDS_MOST);
            c.yes(type + " is static inside", type == StrayKeys.class || Modifier.isStatic(type.getModifiers()));
        }
    }

    private static void source() throws IOException {
        String text = Files.readString(Path.of("src/main/java/StrayKeys.java"), StandardCharsets.ISO_8859_1);
        c.yes("plain signs alone", text.chars().allMatch(s -> s == '\n' || s >= 32 && s < 127));
        String code = text.replaceAll("(?s)/\\*.*?\\*/", "").replaceAll("//[^\n]*", "");
        String[] ruledOut = {"throw", "throws", "try", "catch", "finally", "synchronized", "assert", "import",
            "package", "protected", "goto", "double", "float", "Exception", "equals", "hashCode", "toString"};
        for (String word : ruledOut) {
            c.yes("no " + word, !Pattern.compile("\\b" + word + "\\b").matcher(code).find());
        }
        c.yes("no lambda, no method reference", !code.contains("->") && !code.contains("::"));
        c.yes("no Exact", !code.contains("Exact"));
        int longest = 0;
        Matcher methods = Pattern.compile("(?m)^( {4}| {8})\\S[^\n;=]*\\) \\{\n(?s:.*?)^\\1\\}").matcher(code);
        while (methods.find()) {
            longest = Math.max(longest, methods.group().split("\n").length);
        }
        c.yes("short methods: " + longest, longest > 10 && longest <= METHOD_LINES_MOST);
    }

    /** A run has one room for all its objects: calls make none, whatever they answer. */
    private static void room() {
        com.sun.management.ThreadMXBean threads =
            (com.sun.management.ThreadMXBean) ManagementFactory.getThreadMXBean();
        long thread = Thread.currentThread().getId();
        StrayKeys x = Checks.boardOf("k000 t011 k100 s110 w122 u250 v312");
        Checks.layRow(x, 0, 7, 15, 0, 32);
        useAll(x);
        long before = threads.getThreadAllocatedBytes(thread);
        int rounds = 200;
        for (int n = 0; n < rounds; n++) {
            useAll(x);
        }
        long bytes = threads.getThreadAllocatedBytes(thread) - before;
        c.yes("calls make no objects: " + bytes, bytes < 100L * rounds);
    }

    private static void useAll(StrayKeys x) {
        x.row(1, 40);
        x.copy(1, 0, 1, 1, 39);
        x.mean(1);
        x.tear(1);
        x.text(1, 60);
        x.put(1, 1, 1);
        x.fault(0);
        x.mark(1, 1);
        x.press(2);
        x.scan();
        x.cut(1);
        x.keep(1);
        x.undo(0);
        x.on(1);
        x.lots(5, 77);
        x.undo(0);
        x.ghosts();
        x.later(20);
        x.haunts(0);
        x.right();
        x.alike();
        x.best();
        x.kinds(0, 0);
        x.places(0, 0);
        x.test(0, 0);
        x.duel(4);
        x.odds(5);
        x.mid(5);
        x.board(0);
        x.digest();
    }
}
