import java.io.IOException;
import java.nio.file.Files;
import java.nio.file.Path;
import java.util.ArrayList;
import java.util.List;

/** ../shared/DOC.md by promise; number 0 is what it says ahead of them. */
final class Document {
    static final int PROMISES = 48;
    private final List<String> parts = new ArrayList<>();

    Document() throws IOException {
        String all = Files.readString(Path.of("../shared/DOC.md")).replaceAll("\\s+", " ");
        String promised = all.substring(0, all.indexOf("## Not promised"));
        for (String part : promised.split("## Promise \\d+: ")) {
            parts.add(part);
        }
        if (parts.size() != PROMISES + 1) {
            throw new IllegalStateException("the document has " + (parts.size() - 1) + " promises");
        }
    }

    boolean says(int promise, String words) {
        return promise >= 0 && promise <= PROMISES && parts.get(promise).contains(words);
    }

    /** What a promise says behind its call; ahead of the promises: the Terms, without what only sets them out. */
    String textOf(int promise) {
        String part = parts.get(promise);
        if (promise > 0) {
            return part.substring(part.indexOf("`: ") + 3).trim();
        }
        String terms = part.substring(part.indexOf("## Terms "), part.indexOf("Ahead of the calls"));
        return terms.replaceAll("## Terms 1\\. | 2\\.|```(text)?", "").trim();
    }
}
