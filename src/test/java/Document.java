import java.io.IOException;
import java.io.UncheckedIOException;
import java.nio.file.Files;
import java.nio.file.Path;
import java.util.HashMap;
import java.util.Map;

/** The document by its headings. The tests quote its sentences, and none may be left without a test. */
final class Document {
    private static final Path FILE = Path.of("../shared/DOC.md");
    private static final Map<String, Document> PARTS = parts();

    private final String text;
    private final boolean[] isQuoted;

    private Document(String text) {
        this.text = text;
        this.isQuoted = new boolean[text.length()];
    }

    /** Notes that a sentence, or a part of one, of the part under a heading has a test. */
    static void quote(String heading, String sentence) {
        Document part = PARTS.get(heading);
        int start = part == null ? -1 : part.text.indexOf(sentence);
        Check.is(heading + " says: " + sentence, start >= 0, true);
        while (start >= 0) {
            for (int i = start; i < start + sentence.length(); i++) {
                part.isQuoted[i] = true;
            }
            start = part.text.indexOf(sentence, start + 1);
        }
    }

    /** Checks that no sentence of the part under a heading is left without a test. */
    static void finish(String heading) {
        StringBuilder left = new StringBuilder();
        Document part = PARTS.get(heading);
        for (int i = 0; part != null && i < part.text.length(); i++) {
            left.append(part.isQuoted[i] ? ' ' : part.text.charAt(i));
        }
        Check.is(heading + " is there", part != null, true);
        Check.is(heading + ", sentences without a test", left.toString().trim(), "");
    }

    private static Map<String, Document> parts() {
        Map<String, Document> parts = new HashMap<>();
        for (String part : read().split("(?m)^## ")) {
            String[] headingAndText = part.split("\n", 2);
            parts.put(headingAndText[0].replaceAll(":.*", ""), new Document(plain(headingAndText[1])));
        }
        return parts;
    }

    private static String read() {
        try {
            return Files.readString(FILE);
        } catch (IOException failed) {
            throw new UncheckedIOException(failed);
        }
    }

    /** Leaves out signatures, and parameters that are told without a number: they name no bound. */
    private static String plain(String part) {
        return part.replaceAll("(?m)^`[^`]*`: ", "").replaceAll("(?m)^- `\\w+`: [^0-9\n]*$", "")
            .replaceAll("\\s+", " ").trim();
    }
}
