import java.io.IOException;
import java.nio.file.Files;
import java.nio.file.Path;
import java.util.Map;
import java.util.TreeMap;

/** The document's words by their places ("Promise 2", "Terms 1", ..), and which of them a test has named. */
final class Document {
    private static final Path FILE = Path.of("../shared/DOC.md");

    private final Map<String, String> texts = new TreeMap<>();
    private final Map<String, boolean[]> named = new TreeMap<>();

    Document() {
        String[] sections = read().split("(?m)^## ");
        for (String section : sections) {
            String title = section.split("\n", 2)[0];
            String text = section.substring(title.length());
            if (title.equals("Terms")) {
                addTerms(text);
            } else {
                // A promise's text begins with its call.
                add(title.split(":")[0], text.replaceFirst("^\\s*`[^`]*`:", ""));
            }
        }
    }

    private static String read() {
        try {
            return Files.readString(FILE);
        } catch (IOException missing) {
            throw new IllegalStateException("the document is not at " + FILE.toAbsolutePath(), missing);
        }
    }

    private void addTerms(String text) {
        String[] terms = text.split("Ahead of the calls")[0].split("(?m)^(?=\\d\\. )");
        for (String term : terms) {
            if (!term.isBlank()) {
                add("Terms " + term.charAt(0), term.substring(2).replaceAll("(?m)^```.*$", ""));
            }
        }
    }

    private void add(String place, String text) {
        String plain = text.replaceAll("\\s+", " ").trim();
        texts.put(place, plain);
        named.put(place, new boolean[plain.length()]);
    }

    /** The words of a place, with one blank between them. */
    String text(String place) {
        return texts.getOrDefault(place, "");
    }

    /** Whether these words stand at that place; they are named then. */
    boolean name(String place, String words) {
        int from = text(place).indexOf(words);
        if (from < 0) {
            return false;
        }
        for (int i = from; i < from + words.length(); i++) {
            named.get(place)[i] = true;
        }
        return true;
    }

    /** The words of a place that no test has named; marks between named words don't count. */
    String unnamed(String place) {
        StringBuilder left = new StringBuilder();
        String text = texts.getOrDefault(place, "no such place");
        for (int i = 0; i < text.length(); i++) {
            boolean open = !named.containsKey(place) || !named.get(place)[i];
            left.append(open ? text.charAt(i) : '_');
        }
        String words = left.toString().replaceAll("_+", " .. ");
        return words.matches("[^a-zA-Z0-9]*") ? "" : words;
    }
}
