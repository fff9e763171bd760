import java.io.IOException;
import java.nio.file.Files;
import java.nio.file.Path;
import java.util.ArrayList;
import java.util.LinkedHashMap;
import java.util.List;
import java.util.Map;
import java.util.Set;
import java.util.TreeSet;

/** The document's sentences by their heads, and which of them have a test of their own. */
final class Sentences {
    // Under "Terms" these tell of nothing that a call could answer.
    private static final String NO_ANSWER = "(Fingerprints|Table|Runs|Flags)\\.|Ahead of the calls .*";

    private final Map<String, List<String>> byHead = new LinkedHashMap<>();
    private final Set<String> tested = new TreeSet<>();

    Sentences(Path document) throws IOException {
        String head = "";
        for (String line : Files.readAllLines(document)) {
            if (line.startsWith("## ")) {
                head = line.substring(3).replaceFirst(":.*", "");
            } else {
                add(head, line);
            }
        }
    }

    private void add(String head, String line) {
        String words = line.replaceFirst("^`[^`]*`: ", "").strip();
        for (String sentence : words.split("(?<=[.)]) (?=[A-Z(])")) {
            if (!sentence.isEmpty() && !sentence.matches(NO_ANSWER)) {
                byHead.computeIfAbsent(head, h -> new ArrayList<>()).add(sentence);
            }
        }
    }

    /** The one sentence under a head that begins so; it has a test from now on. */
    String withTest(String head, String beginning) {
        List<String> found = new ArrayList<>();
        for (String sentence : byHead.getOrDefault(head, List.of())) {
            if (sentence.startsWith(beginning)) {
                found.add(sentence);
            }
        }
        if (found.size() != 1) {
            throw new IllegalStateException(head + " has not one sentence \"" + beginning + "\": " + found);
        }
        String name = head + ": " + found.get(0);
        tested.add(name);
        return name;
    }

    /** The sentences without a test under the heads that begin so. */
    List<String> withoutTest(String headBeginning) {
        List<String> all = new ArrayList<>();
        byHead.forEach((head, sentences) -> {
            for (String sentence : sentences) {
                if (head.startsWith(headBeginning) && !tested.contains(head + ": " + sentence)) {
                    all.add(head + ": " + sentence);
                }
            }
        });
        return all;
    }

    int size(String headBeginning) {
        int size = 0;
        for (Map.Entry<String, List<String>> head : byHead.entrySet()) {
            size += head.getKey().startsWith(headBeginning) ? head.getValue().size() : 0;
        }
        return size;
    }
}
