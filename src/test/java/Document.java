import java.io.IOException;
import java.nio.file.Files;
import java.nio.file.Path;
import java.util.ArrayList;
import java.util.LinkedHashMap;
import java.util.List;
import java.util.Map;
import java.util.regex.Matcher;
import java.util.regex.Pattern;

/** The document's words, part by part, and which of them a test has named. */
final class Document {
    private static final Pattern REFUSAL = Pattern.compile("-[1-4](?![0-9])|Exception for");

    private final Map<String, Part> parts = new LinkedHashMap<>();

    private static final class Part {
        final StringBuilder words = new StringBuilder();
        boolean[] named = new boolean[0];
    }

    Document(Path path) {
        Part part = new Part();
        for (String line : lines(path)) {
            if (line.startsWith("## ")) {
                part = new Part();
                parts.put(line.substring(3).replaceAll(":.*", ""), part);
            } else {
                part.words.append(' ').append(line);
            }
        }
        for (Part each : parts.values()) {
            String plain = each.words.toString().replaceAll("\\s+", " ");
            each.words.setLength(0);
            each.words.append(plain);
            each.named = new boolean[plain.length()];
        }
    }

    private static List<String> lines(Path path) {
        try {
            return Files.exists(path) ? Files.readAllLines(path) : List.of();
        } catch (IOException e) {
            return List.of();
        }
    }

    boolean isThere() {
        return !parts.isEmpty();
    }

    /** Whether the words stand in that part; they are named from now on. */
    boolean says(String part, String words) {
        Part found = parts.get(part);
        int at = found == null ? -1 : found.words.indexOf(words);
        for (int i = at; at >= 0 && i < at + words.length(); i++) {
            found.named[i] = true;
        }
        return at >= 0;
    }

    /** The refusals in the promises that no test has named. */
    List<String> refusalsNotNamed() {
        List<String> missing = new ArrayList<>();
        for (Map.Entry<String, Part> entry : parts.entrySet()) {
            Part part = entry.getValue();
            Matcher refusal = REFUSAL.matcher(part.words);
            while (entry.getKey().startsWith("Promise") && refusal.find()) {
                if (!part.named[refusal.start()]) {
                    missing.add(entry.getKey() + ": " + refusal.group());
                }
            }
        }
        return missing;
    }
}
