import java.io.IOException;
import java.io.UncheckedIOException;
import java.nio.charset.StandardCharsets;
import java.nio.file.Files;
import java.nio.file.Path;

/** The document's sentences that tests quote: each must stand in its promise, or among the terms (promise 0). */
final class Sentences {
    static final int TERMS = 0;
    private static final int PROMISES = 45;
    private static final Path DOC = Path.of("..", "shared", "DOC.md");

    private final String[] parts = new String[PROMISES + 1];
    private final boolean[] quoted = new boolean[PROMISES + 1];

    Sentences() {
        String doc = plain(read());
        int from = 0;
        for (int p = 1; p <= PROMISES; p++) {
            int till = doc.indexOf("## Promise " + p + ":", from);
            parts[p - 1] = doc.substring(from, till);
            from = till;
        }
        parts[PROMISES] = doc.substring(from, doc.indexOf("## Not promised", from));
    }

    private static String read() {
        try {
            return Files.readString(DOC, StandardCharsets.UTF_8);
        } catch (IOException e) {
            throw new UncheckedIOException(e);
        }
    }

    private static String plain(String text) {
        return text.replaceAll("\\s+", " ");
    }

    /** Whether words stand where they are said to; a dash of three dots stands for words left out. */
    boolean stand(int promise, String words) {
        quoted[promise] = true;
        int from = 0;
        for (String piece : plain(words).split(" \\.\\.\\. ")) {
            int at = parts[promise].indexOf(piece, from);
            if (at < 0) {
                return false;
            }
            from = at + piece.length();
        }
        return true;
    }

    boolean isQuoted(int promise) {
        return quoted[promise];
    }
}
