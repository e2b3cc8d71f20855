import java.io.IOException;
import java.nio.charset.StandardCharsets;
import java.nio.file.Files;
import java.nio.file.Path;
import java.util.ArrayList;
import java.util.HashSet;
import java.util.List;
import java.util.Map;
import java.util.Set;
import java.util.TreeMap;
import java.util.regex.Pattern;

/** The document's sentences by promises (0: its terms): which of them tests have named, which are left. */
final class Document {
    static final int TERMS = 0;
    private static final Path PLACE = Path.of("../shared/DOC.md");
    private static final Pattern PROMISE = Pattern.compile("## Promise (\\d+): .*");
    /** A sentence ends at a full stop or a semicolon; ".." stands within numbers. */
    private static final String ENDS = "(?<!\\.)\\. |; |\\.$|(?<=\\.\\))$";

    private final Map<Integer, List<String>> sentences = new TreeMap<>();
    private final Map<Integer, Set<String>> named = new TreeMap<>();

    Document() throws IOException {
        if (!isThere()) {
            System.out.println("EdgesTest: " + PLACE + " is not here, so no sentence is looked up");
            return;
        }
        int section = TERMS;
        boolean reading = false;
        for (String line : Files.readAllLines(PLACE, StandardCharsets.UTF_8)) {
            var promise = PROMISE.matcher(line);
            if (promise.matches()) {
                section = Integer.parseInt(promise.group(1));
            }
            if (line.startsWith("## ")) {
                reading = promise.matches() || line.equals("## Terms");
            } else if (reading || line.startsWith("An object is used")) {
                take(section, line.strip());
            }
        }
    }

    private static boolean isThere() {
        return Files.isReadable(PLACE);
    }

    private void take(int section, String line) {
        if (line.isEmpty() || line.startsWith("```") || isHeading(line)) {
            return;
        }
        String words = line.replaceFirst("^`[^`]*`: ", "").replaceFirst("^======== \\d ", "");
        for (String sentence : words.split(ENDS)) {
            sentences.computeIfAbsent(section, s -> new ArrayList<>()).add(sentence);
        }
    }

    /** What the interface says ahead of calls is a heading, unless it tells more of them in brackets. */
    private static boolean isHeading(String line) {
        return line.startsWith("Ahead of the calls") && !line.contains("(");
    }

    /** Names a sentence, by all its words or by some that stand together in it; whether there is such a one. */
    boolean name(int section, String words) {
        if (!isThere()) {
            return true;
        }
        List<String> all = sentences.getOrDefault(section, List.of());
        String found = words;
        if (!all.contains(words)) {
            found = all.stream().filter(s -> s.contains(words)).findFirst().orElse(null);
        }
        if (found == null) {
            return false;
        }
        named.computeIfAbsent(section, s -> new HashSet<>()).add(found);
        return true;
    }

    /** The sentences that no test has named. */
    List<String> left() {
        List<String> left = new ArrayList<>();
        sentences.forEach((section, all) -> {
            for (String s : all) {
                if (!named.getOrDefault(section, Set.of()).contains(s)) {
                    left.add("promise " + section + ", '" + s + "'");
                }
            }
        });
        return left;
    }

    boolean hasPromises(int many) {
        return !isThere() || sentences.size() == many + 1;
    }
}
