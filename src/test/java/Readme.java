import java.io.IOException;
import java.nio.charset.StandardCharsets;
import java.nio.file.Files;
import java.nio.file.Path;
import java.util.ArrayList;
import java.util.List;
import java.util.regex.Matcher;
import java.util.regex.Pattern;

/** README.md, taken apart: its blocks, and the calls that stand in them with the answers that it shows. */
final class Readme {
    private static final Pattern PROGRAM = Pattern.compile("public class (\\w+) \\{");
    private static final Pattern STATEMENT = Pattern.compile("((?:x|new StrayKeys\\(\\))\\.(\\w+)\\(.*\\));(.*)");
    private static final Pattern ANSWER = Pattern.compile("\\s+// (-?\\w+)(?:: .*)?");

    final List<String> lines;
    final List<Block> blocks = new ArrayList<>();

    /** What stands between two fences; its first line is that of the page behind the fence. */
    record Block(String language, int firstLine, List<String> lines) {
        String text() {
            return String.join("\n", lines) + "\n";
        }

        /** The name of the class that the block holds whole; null, if it holds calls. */
        String program() {
            Matcher found = PROGRAM.matcher(text());
            return found.find() ? found.group(1) : null;
        }
    }

    /** A call by its line of the page; the answer is null where the page shows none. */
    record Call(int line, String words, String name, String answer) {
    }

    Readme() throws IOException {
        lines = Files.readAllLines(Path.of("README.md"), StandardCharsets.UTF_8);
        Block open = null;
        for (int k = 0; k < lines.size(); k++) {
            String line = lines.get(k);
            if (!line.startsWith("```")) {
                if (open != null) {
                    open.lines().add(line);
                }
            } else if (open == null) {
                open = new Block(line.substring(3), k + 2, new ArrayList<>());
            } else {
                blocks.add(open);
                open = null;
            }
        }
    }

    /** The first block in a language behind another one; null, if there is none. */
    Block next(Block before, String language) {
        for (int k = blocks.indexOf(before) + 1; k < blocks.size(); k++) {
            if (blocks.get(k).language().equals(language)) {
                return blocks.get(k);
            }
        }
        return null;
    }

    /** The blocks of calls: one run. */
    List<Block> runs() {
        return blocks.stream().filter(b -> b.language().equals("java") && b.program() == null).toList();
    }

    /** The call that a line of a run is; null, if it is something else, or stands within a loop. */
    static Call call(int number, String line) {
        Matcher statement = STATEMENT.matcher(line);
        if (!statement.matches()) {
            return null;
        }
        Matcher answer = ANSWER.matcher(statement.group(3));
        return new Call(number, statement.group(1), statement.group(2), answer.matches() ? answer.group(1) : null);
    }
}
