import java.io.IOException;
import java.nio.file.Files;
import java.nio.file.Path;
import java.util.ArrayList;
import java.util.LinkedHashMap;
import java.util.List;
import java.util.Map;
import java.util.regex.Matcher;
import java.util.regex.Pattern;

/**
 * The sentences of ../shared/DOC.md, by part, so that each can be held against the tests that quote it.
 * A part is "What it is", a promise's heading, or the bold words that open a paragraph of the Terms.
 */
final class Document {
    private static final Path FILE = Path.of("../shared/DOC.md");
    private static final Pattern NEW_BLOCK = Pattern.compile("^(\\d+\\. |- )");
    private static final Pattern TERM = Pattern.compile("^\\*\\*([^*]+?)\\.?\\*\\*");
    private static final Pattern SENTENCE_END = Pattern.compile("(?<=\\.|\\.\\))\\s+(?=[A-Z(\"])");

    private final Map<String, List<String>> parts = new LinkedHashMap<>();
    private String part = "";
    private String block = "";

    private Document() {
    }

    static boolean isHere() {
        return Files.isReadable(FILE);
    }

    /** Every part that says what must hold, with its sentences in order; the public face has none. */
    static Map<String, List<String>> parts() {
        try {
            Document document = new Document();
            for (String line : Files.readAllLines(FILE)) {
                document.take(line);
            }
            document.endBlock();
            document.parts.keySet().removeIf(p -> !p.matches("What it is|Terms, .*|Promise .*"));
            return document.parts;
        } catch (IOException e) {
            throw new IllegalStateException("../shared/DOC.md can't be read", e);
        }
    }

    private void take(String line) {
        Matcher term = TERM.matcher(line);
        if (line.startsWith("## ")) {
            endBlock();
            part = line.substring(3).strip();
        } else if (part.startsWith("Terms") && term.find()) {
            endBlock();
            part = "Terms, " + term.group(1);
            block = line;
        } else if (line.isBlank() || NEW_BLOCK.matcher(line).find()) {
            endBlock();
            block = line;
        } else {
            block = block + " " + line;
        }
    }

    private void endBlock() {
        String text = NEW_BLOCK.matcher(block).replaceFirst("").replaceAll("[`*]", "").strip();
        for (String sentence : SENTENCE_END.split(text)) {
            // What has no end is a lead-in to a list; a lone word is a title.
            if (sentence.contains(" ") && sentence.matches(".*[.:;)]")) {
                parts.computeIfAbsent(part, p -> new ArrayList<>()).add(sentence);
            }
        }
        block = "";
    }
}
