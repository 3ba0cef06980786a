import java.io.IOException;
import java.nio.file.Files;
import java.nio.file.Path;
import java.util.ArrayList;
import java.util.LinkedHashMap;
import java.util.List;
import java.util.Map;
import java.util.Set;

/** The document's sentences, by the part of it where they stand, and which of them have a test. */
final class Sentences {
    /** The title; the face, which FaceTest looks at; what the document leaves free. */
    private static final Set<String> ELSEWHERE = Set.of("", "The public face", "Not promised");

    private final Map<String, String> parts = new LinkedHashMap<>();
    private final Map<String, boolean[]> tested = new LinkedHashMap<>();

    Sentences(Path doc) throws IOException {
        String part = "";
        for (String line : Files.readAllLines(doc)) {
            if (line.startsWith("## ")) {
                part = line.substring(3).replaceAll(":.*", "");
            } else if (isToTest(line)) {
                parts.merge(part, bare(line, part), (a, b) -> a + " " + b);
            }
        }
        parts.replaceAll((name, text) -> text.replaceAll("\\s+", " ").trim());
        parts.forEach((name, text) -> tested.put(name, new boolean[text.length()]));
    }

    /** What the interface says ahead of calls are its comments; FaceTest looks for them. */
    private static boolean isToTest(String line) {
        return !line.startsWith("```") && !line.startsWith("Ahead of the calls");
    }

    private static String bare(String line, String part) {
        String text = line.replaceAll("^==== \\d ", "");
        // the head of a promise is the call itself, which FaceTest looks at
        return part.startsWith("Promise") ? text.replaceAll("^`[^`]*`: ", "") : text;
    }

    /** The sentence has a test; what is wrong about that, or nothing. */
    String mark(String part, String sentence) {
        String text = parts.get(part);
        int at = text == null ? -1 : text.indexOf(sentence);
        if (at < 0) {
            return "doesn't stand in the document";
        }
        if (text.indexOf(sentence, at + 1) >= 0) {
            return "stands there twice";
        }
        boolean[] marks = tested.get(part);
        for (int k = at; k < at + sentence.length(); k++) {
            marks[k] = true;
        }
        return "";
    }

    /** What stands in the document and has no test. */
    List<String> untested() {
        List<String> all = new ArrayList<>();
        parts.forEach((name, text) -> {
            if (!ELSEWHERE.contains(name)) {
                untestedOf(name, text, all);
            }
        });
        return all;
    }

    private void untestedOf(String name, String text, List<String> all) {
        StringBuilder rest = new StringBuilder();
        for (int k = 0; k <= text.length(); k++) {
            if (k < text.length() && !tested.get(name)[k]) {
                rest.append(text.charAt(k));
            } else if (rest.length() > 0) {
                if (rest.chars().anyMatch(Character::isLetterOrDigit)) {
                    all.add(name + ": " + rest.toString().trim());
                }
                rest.setLength(0);
            }
        }
    }

    int promises() {
        return (int) parts.keySet().stream().filter(name -> name.startsWith("Promise")).count();
    }
}
