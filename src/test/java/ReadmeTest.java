import java.io.IOException;
import java.lang.reflect.Method;
import java.lang.reflect.Modifier;
import java.nio.file.Files;
import java.nio.file.Path;
import java.util.ArrayList;
import java.util.HashMap;
import java.util.HashSet;
import java.util.List;
import java.util.Map;
import java.util.Set;
import java.util.regex.Matcher;
import java.util.regex.Pattern;
import java.util.stream.Stream;

/** What README.md tells of using the class and of running its tests, taken from it as it stands. */
public final class ReadmeTest {
    private static final Path MAIN = Path.of("src/main/java/StrayKeys.java");
    private static final Path TESTS = Path.of("src/test/java");
    private static final Pattern KIND = Pattern.compile("\\| `(.)` +\\| (\\d) (\\w+) +\\|.*");
    private static final Pattern NAMED_TEST = Pattern.compile("- `(\\w+Test)`: .*");
    private static final int CALLS_MOST = 512;
    private static final Checks c = new Checks("ReadmeTest");

    private ReadmeTest() {
    }

    public static void main(String[] args) throws IOException, InterruptedException, ReflectiveOperationException {
        Readme readme = new Readme();
        program(readme);
        calls(readme);
        kinds(readme);
        tests(readme);
        c.end();
    }

    /** The program does, by the commands that the page tells, what the page says it prints. */
    private static void program(Readme readme) throws IOException, InterruptedException {
        Readme.Block program = readme.blocks.stream().filter(b -> b.program() != null).findFirst().orElse(null);
        c.yes("README.md shows a program", program != null);
        if (program == null) {
            return;
        }
        Readme.Block commands = readme.next(program, "sh");
        Readme.Block prints = readme.next(program, "text");
        c.yes("README.md tells how to run it, and what it prints", commands != null && prints != null);
        if (commands == null || prints == null) {
            return;
        }
        Shell shell = new Shell();
        shell.copy(MAIN, MAIN.toString());
        shell.write(program.program() + ".java", program.text());
        Shell.Ending ending = shell.run(commands.text());
        shell.remove();
        c.due("the commands of README.md line " + commands.firstLine() + ", exit code", ending.code(), 0);
        c.yes("README.md line " + prints.firstLine() + " is what is printed: " + ending.printed(),
            ending.printed().equals(prints.text()));
    }

    /** Each call answers what the page shows; the page shows each call of the face. */
    private static void calls(Readme readme) throws IOException, InterruptedException, ReflectiveOperationException {
        List<Readme.Call> calls = new ArrayList<>();
        String source = sourceOf(readme, calls);
        Shell shell = new Shell();
        shell.copy(MAIN, "StrayKeys.java");
        shell.write("ReadmeCalls.java", source);
        Shell.Ending ending = shell.run("javac -d out StrayKeys.java ReadmeCalls.java\njava -cp out ReadmeCalls\n");
        shell.remove();
        c.due("the calls of README.md, exit code", ending.code(), 0);
        Map<Integer, Long> answers = ending.code() == 0 ? answersOf(ending.printed()) : Map.of();
        Set<String> shown = new HashSet<>();
        for (Readme.Call call : calls) {
            String what = "README.md line " + call.line() + ": " + call.words();
            c.yes(what + " is shown with its answer", call.answer() != null);
            if (call.answer() != null && answers.containsKey(call.line())) {
                c.due(what, answers.get(call.line()), number(call.answer()));
                shown.add(call.name());
            }
        }
        c.yes("few calls on one object: " + calls.size(), calls.size() <= CALLS_MOST / 2);
        for (Method m : StrayKeys.class.getDeclaredMethods()) {
            if (Modifier.isPublic(m.getModifiers())) {
                c.yes("README.md shows " + m.getName() + "()", shown.contains(m.getName()));
            }
        }
    }

    /** A program of all the runs' lines, in which each call prints its line of the page and its answer. */
    private static String sourceOf(Readme readme, List<Readme.Call> calls) {
        StringBuilder source = new StringBuilder("class ReadmeCalls {\npublic static void main(String[] args) {\n");
        for (Readme.Block run : readme.runs()) {
            int number = run.firstLine();
            for (String line : run.lines()) {
                Readme.Call call = Readme.call(number, line);
                if (call == null) {
                    source.append(line);
                } else {
                    calls.add(call);
                    source.append("System.out.println(\"" + number + " \" + " + call.words() + ");");
                }
                source.append('\n');
                number++;
            }
        }
        return source.append("}\n}\n").toString();
    }

    private static Map<Integer, Long> answersOf(String printed) {
        Map<Integer, Long> answers = new HashMap<>();
        for (String line : printed.split("\n")) {
            String[] parts = line.split(" ");
            if (parts.length == 2) {
                answers.put(Integer.valueOf(parts[0]), Long.valueOf(parts[1]));
            }
        }
        return answers;
    }

    /** An answer is shown by its number, or by the name of a constant. */
    private static long number(String answer) throws ReflectiveOperationException {
        boolean named = Character.isUpperCase(answer.charAt(0));
        return named ? StrayKeys.class.getField(answer).getInt(null) : Long.parseLong(answer);
    }

    /** The terms: "KINDS of KEYS and letters"; the page's table has them so. */
    private static void kinds(Readme readme) {
        int rows = 0;
        for (String line : readme.lines) {
            Matcher row = KIND.matcher(line);
            if (row.matches()) {
                rows++;
                StrayKeys x = Checks.boardOf(row.group(1) + "000 k110");
                c.due("README.md, letter " + row.group(1), x.key(0, 0), 1);
                c.due("README.md, the kind of letter " + row.group(1), x.asked(), Integer.parseInt(row.group(2)));
            }
        }
        c.due("kinds in README.md", rows, 6);
    }

    /** The page tells how to run the tests, and names each of them. */
    private static void tests(Readme readme) throws IOException {
        List<Readme.Block> commands = readme.blocks.stream().filter(b -> b.language().equals("sh")).toList();
        c.yes("README.md tells to run .ci/run",
            !commands.isEmpty() && commands.get(commands.size() - 1).text().equals(".ci/run\n"));
        c.yes(".ci/run can be run", Files.isExecutable(Path.of(".ci/run")));
        Set<String> named = new HashSet<>();
        for (String line : readme.lines) {
            Matcher test = NAMED_TEST.matcher(line);
            if (test.matches()) {
                named.add(test.group(1));
                c.yes(test.group(1) + " is there", Files.isRegularFile(TESTS.resolve(test.group(1) + ".java")));
            }
        }
        try (Stream<Path> files = Files.list(TESTS)) {
            files.map(f -> f.getFileName().toString()).filter(f -> f.endsWith("Test.java")).forEach(f ->
                c.yes("README.md names " + f, named.contains(f.substring(0, f.length() - ".java".length()))));
        }
    }
}
