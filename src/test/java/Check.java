import java.nio.charset.StandardCharsets;
import java.util.Arrays;

/** What the tests share: telling texts and trays, and comparing answers with those that are due. */
final class Check {
    static final Class<? extends RuntimeException> ARGUMENT = IllegalArgumentException.class;
    static final Class<? extends RuntimeException> STATE = IllegalStateException.class;
    static final Class<? extends RuntimeException> ELEMENT = java.util.NoSuchElementException.class;
    static final Class<? extends RuntimeException> INDEX = IndexOutOfBoundsException.class;

    private static int wrong = 0;
    private static int asked = 0;
    private static Sentences sentences = null;
    private static String about = "";

    interface Call {
        long answer();
    }

    private Check() {
    }

    /** What is asked from here on tests these words of a promise, or of the terms (promise 0). */
    static void sentence(int promise, String words) {
        if (sentences == null) {
            sentences = new Sentences();
        }
        about = "";
        due("'" + words + "' stands in promise " + promise, sentences.stand(promise, words) ? 1 : 0, 1);
        about = "[" + (promise == 0 ? "terms" : "promise " + promise) + ": " + words + "] ";
    }

    /** Whether a test has quoted each of some promises. */
    static void quoted(int first, int last) {
        about = "";
        for (int p = first; p <= last; p++) {
            due("promise " + p + " is quoted", sentences != null && sentences.isQuoted(p) ? 1 : 0, 1);
        }
    }

    static void due(String what, long got, long want) {
        asked++;
        if (got != want) {
            wrong++;
            System.out.println(about + what + " answered " + got + ", due is " + want);
        }
    }

    static void due(String what, boolean got, boolean want) {
        due(what, got ? 1 : 0, want ? 1 : 0);
    }

    static void same(String what, String got, String want) {
        asked++;
        if (!got.equals(want)) {
            wrong++;
            System.out.println(about + what + " told " + got + ", due is " + want);
        }
    }

    static void refused(String what, Class<? extends RuntimeException> kind, Call call) {
        asked++;
        try {
            long got = call.answer();
            wrong++;
            System.out.println(about + what + " answered " + got + ", due is " + kind.getSimpleName());
        } catch (RuntimeException e) {
            if (e.getClass() != kind) {
                wrong++;
                System.out.println(about + what + " threw " + e + ", due is " + kind.getSimpleName());
            }
        }
    }

    static void feed(CrossedLines x, byte[] text) {
        byte[] row = Arrays.copyOf(text, (text.length + 19) / 20 * 20);
        Arrays.fill(row, text.length, row.length, (byte) 32);
        for (int i = 0; i < row.length; i += 20) {
            x.feed(four(row, i), four(row, i + 4), four(row, i + 8), four(row, i + 12), four(row, i + 16));
        }
    }

    private static int four(byte[] row, int i) {
        return row[i] << 24 | (row[i + 1] & 255) << 16 | (row[i + 2] & 255) << 8 | row[i + 3] & 255;
    }

    static int exchange(CrossedLines x, String text) {
        feed(x, text.getBytes(StandardCharsets.ISO_8859_1));
        return x.exchange(text.length());
    }

    static CrossedLines told(String text) {
        CrossedLines x = new CrossedLines();
        int lines = exchange(x, text);
        if (lines < 0) {
            due("exchange(" + text + ")", lines, 1);
        }
        return x;
    }

    /** A fault of a text, its kind and its place. */
    static void fault(String text, int kind, int place) {
        CrossedLines x = new CrossedLines();
        due("exchange(" + text + ")", exchange(x, text), -10 - kind);
        due("fault(0) of " + text, x.fault(0), kind);
        due("fault(1) of " + text, x.fault(1), place);
    }

    static void good(String text, int lines) {
        CrossedLines x = new CrossedLines();
        due("exchange(" + text + ")", exchange(x, text), lines);
        due("fault(0) of " + text, x.fault(0), 0);
        due("fault(1) of " + text, x.fault(1), -1);
    }

    static void tray(CrossedLines x, int tray, long... row) {
        x.tray(tray, 3, row.length);
        for (int i = 0; i < row.length; i++) {
            x.write(tray, i, row[i]);
        }
    }

    static void end() {
        System.out.println(asked + " answers, " + wrong + " not as due");
        if (wrong > 0) {
            System.exit(1);
        }
    }
}
