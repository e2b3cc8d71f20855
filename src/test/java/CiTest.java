import java.io.IOException;
import java.nio.file.Path;
import java.util.ArrayList;
import java.util.List;
import java.util.TreeMap;

/** That .ci/run runs each test, of the project and under ../shared/tests, and fails if one fails. */
public final class CiTest {
    private static final String OWN = "checkout/src/test/java/", SHARED = "shared/tests/";
    private static final String CLASS = "public final class StrayKeys {\n public int told() {\n return 7;\n }\n}\n";
    private static final Checks c = new Checks("CiTest");

    private CiTest() {
    }

    /** A small project beside small shared tests, by their places. */
    private static final class Scene {
        private final String name;
        private final TreeMap<String, String> files = new TreeMap<>();

        Scene(String name) {
            this.name = name;
            files.put("checkout/src/main/java/StrayKeys.java", CLASS);
            files.put(OWN + "FirstTest.java", test("FirstTest", 7));
            files.put(OWN + "SecondTest.java", test("SecondTest", 7));
            files.put(OWN + "Helper.java", "final class Helper {\n}\n");
            files.put(SHARED + "OneRuns.java", test("OneRuns", 7));
            files.put(SHARED + "TwoRuns.java", test("TwoRuns", 7));
        }

        Scene with(String place, String words) {
            files.put(place, words);
            return this;
        }

        Scene without(String place) {
            files.remove(place);
            return this;
        }

        Shell.Ending end() throws IOException, InterruptedException {
            Shell shell = new Shell();
            for (String place : files.keySet()) {
                shell.write(place, files.get(place));
            }
            shell.copy(Path.of(".ci/run"), "checkout/.ci/run");
            Shell.Ending ending = shell.run("sh checkout/.ci/run");
            shell.remove();
            return ending;
        }

        /** It passes or fails, and these tests and no other are run, in this order. */
        void ends(boolean passes, String... tests) throws IOException, InterruptedException {
            Shell.Ending ending = end();
            c.due(".ci/run, " + name + ", exit code", ending.code(), passes ? 0 : 1);
            List<String> ran = new ArrayList<>();
            for (String line : ending.printed().split("\n")) {
                if (line.startsWith("ran ")) {
                    ran.add(line.substring("ran ".length()));
                }
            }
            c.yes(".ci/run, " + name + ", runs " + List.of(tests) + ": " + ending.printed(), ran.equals(List.of(tests)));
        }
    }

    /** A test in the form of the shared ones, that tells that it was run. */
    private static String test(String name, int due) {
        return "public final class " + name + " {\n public static void main(String[] args) {\n"
            + "  System.out.println(\"ran " + name + "\");\n"
            + "  if (new StrayKeys().told() != " + due + ") {\n   System.exit(1);\n  }\n }\n}\n";
    }

    public static void main(String[] args) throws IOException, InterruptedException {
        new Scene("all is well").ends(true, "FirstTest", "SecondTest", "OneRuns", "TwoRuns");
        failing();
        notCompiling();
        places();
        c.end();
    }

    private static void failing() throws IOException, InterruptedException {
        new Scene("the first own test fails").with(OWN + "FirstTest.java", test("FirstTest", 8))
            .ends(false, "FirstTest", "SecondTest", "OneRuns", "TwoRuns");
        new Scene("the first shared test fails").with(SHARED + "OneRuns.java", test("OneRuns", 8))
            .ends(false, "FirstTest", "SecondTest", "OneRuns", "TwoRuns");
        new Scene("the last shared test throws")
            .with(SHARED + "TwoRuns.java", test("TwoRuns", 7).replace("System.exit(1);", "").replace("if (", "if (1 / 0 + "))
            .ends(false, "FirstTest", "SecondTest", "OneRuns", "TwoRuns");
    }

    private static void notCompiling() throws IOException, InterruptedException {
        new Scene("an own test does not compile").with(OWN + "SecondTest.java", "class SecondTest {")
            .ends(false, "OneRuns", "TwoRuns");
        new Scene("a shared test does not compile").with(SHARED + "OneRuns.java", "class OneRuns {")
            .ends(false, "FirstTest", "SecondTest", "TwoRuns");
        new Scene("the class does not compile").with("checkout/src/main/java/StrayKeys.java", "class StrayKeys {")
            .ends(false);
    }

    private static void places() throws IOException, InterruptedException {
        String helper = "class Same {\n}\n";
        new Scene("shared tests deeper down, with classes of one name, and other files")
            .with(SHARED + "OneRuns.java", test("OneRuns", 7) + helper)
            .with(SHARED + "deep er/TwoRuns.java", test("TwoRuns", 7) + helper)
            .with(SHARED + "words.txt", "no test")
            .ends(true, "FirstTest", "SecondTest", "OneRuns", "TwoRuns", "TwoRuns");
        new Scene("no shared tests, but another file").with(SHARED + "words.txt", "no test")
            .without(SHARED + "OneRuns.java").without(SHARED + "TwoRuns.java")
            .ends(false, "FirstTest", "SecondTest");
        new Scene("no shared directory").without(SHARED + "OneRuns.java").without(SHARED + "TwoRuns.java")
            .ends(false, "FirstTest", "SecondTest");
        new Scene("no own tests").without(OWN + "FirstTest.java").without(OWN + "SecondTest.java")
            .ends(false, "OneRuns", "TwoRuns");
    }
}
