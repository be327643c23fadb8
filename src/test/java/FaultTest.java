import java.util.ArrayDeque;
import java.util.Arrays;
import java.util.Deque;
import java.util.List;
import java.util.Random;

/** Texts spoilt at random: the fault and its place are compared with those that a table of the grammar finds. */
public final class FaultTest {
    private static final int RUNS = 20000;
    private static final List<String> SPOILS = List.of("lines", "cord", "call", "to", "at", "lasts", "slips", "likes",
            "marries", "minute", "from", "who", "whom", "liked", "or", "and", "not", "oranges", "0", "1", "7", "8", "99",
            "100", "999", "1000", ";", ":", "+", "-", "*", "(", ")", "[", "]", "=", "<", ">", " ", "\n", "\t", ".", "A",
            "((((((", "not not not ", "[[[");

    private final String text;
    private final Deque<String> wanted = new ArrayDeque<>();
    private int place = 0;
    private int start = 0;
    private String token = "";
    private int lines = 0;
    private int from = 0;
    private int cords = 0;
    private int calls = 0;
    private int depth = 0;
    private String law = "";
    private int told = 0;

    private FaultTest(String text) {
        this.text = text;
    }

    public static void main(String[] args) {
        for (int seed = 0; seed < RUNS; seed++) {
            Random random = new Random(seed);
            String text = new Texts(random).exchange();
            for (int i = random.nextInt(4); i > 0; i--) {
                text = spoil(text, random);
            }
            if (text.length() > 900) {
                continue;
            }
            FaultTest table = new FaultTest(text);
            int kind = table.fault();
            if (kind == 0) {
                Check.good(text, table.told);
            } else {
                Check.fault(text, kind, table.start);
            }
        }
        Check.end();
    }

    private static String spoil(String text, Random random) {
        int at = random.nextInt(text.length() + 1);
        int till = Math.min(text.length(), at + random.nextInt(3));
        String put = random.nextInt(4) == 0 ? "" : SPOILS.get(random.nextInt(SPOILS.size()));
        return text.substring(0, at) + put + text.substring(till);
    }

    /** A row of tokens and parts is wanted; each part gives way to its own row, by the token that is there. */
    private int fault() {
        want("lines", "N2to8", ";", "REST");
        read();
        while (!wanted.isEmpty()) {
            String part = wanted.pop();
            int kind = token.equals("?") ? 1 : isPart(part) ? open(part) : match(part);
            if (kind != 0) {
                return kind;
            }
        }
        return 0;
    }

    private static boolean isPart(String part) {
        return Character.isUpperCase(part.charAt(0)) && !part.startsWith("N");
    }

    private void want(String... row) {
        for (int i = row.length - 1; i >= 0; i--) {
            wanted.push(row[i]);
        }
    }

    private void read() {
        while (place < text.length() && " \n".indexOf(text.charAt(place)) >= 0) {
            place++;
        }
        start = place;
        token = "";
        String rest = text.substring(place);
        for (String sort : new String[] {"[a-z]+", "[0-9]+", "[-;:+*()=<>\\[\\]]"}) {
            java.util.regex.Matcher m = java.util.regex.Pattern.compile(sort).matcher(rest);
            if (m.lookingAt()) {
                token = m.group();
            }
        }
        place += token.length();
        boolean tooLong = token.matches("[0-9]{4,}");
        if (tooLong || token.isEmpty() && !rest.isEmpty()) {
            token = "?";
        }
    }

    private int match(String part) {
        if (!part.startsWith("N")) {
            if (!token.equals(part)) {
                return 2;
            }
            told += part.equals(";") ? 1 : 0;
            read();
            return 0;
        }
        if (!token.matches("[0-9]+")) {
            return 2;
        }
        int n = Integer.parseInt(token);
        boolean isIn = switch (part) {
            case "N2to8" -> n >= 2 && n <= 8;
            case "Nline", "Nfrom" -> n < lines;
            case "Nto" -> n < lines && n != from;
            case "Nlasts" -> n >= 1 && n <= 99;
            default -> true;
        };
        lines = part.equals("N2to8") ? n : lines;
        from = part.equals("Nfrom") ? n : from;
        read();
        if (!isIn) {
            start = place - lengthBack(n);
            return 3;
        }
        return 0;
    }

    /** How far back the number stands that was read ahead of this token. */
    private int lengthBack(int n) {
        int at = start - 1;
        while (" \n".indexOf(text.charAt(at)) >= 0) {
            at--;
        }
        while (at > 0 && Character.isDigit(text.charAt(at - 1))) {
            at--;
        }
        return place - at;
    }

    private int open(String part) {
        switch (part) {
            case "REST":
                return rest();
            case "LINES":
                if (token.matches("[0-9]+")) {
                    want("Nline", "LINES");
                }
                return 0;
            case "SUM":
                want("TERM", "SUMS");
                return 0;
            case "SUMS":
                if (token.equals("+") || token.equals("-")) {
                    want(token, "TERM", "SUMS");
                }
                return 0;
            case "TERM":
                want("ATOM", "ATOMS");
                return 0;
            case "ATOMS":
                if (token.equals("*")) {
                    want("*", "ATOM", "ATOMS");
                }
                return 0;
            case "TRUTH":
                want("BOTH", "BOTHS");
                return 0;
            case "BOTHS":
                if (token.equals("or")) {
                    want("or", "BOTH", "BOTHS");
                }
                return 0;
            case "BOTH":
                want("UNIT", "UNITS");
                return 0;
            case "UNITS":
                if (token.equals("and")) {
                    want("and", "UNIT", "UNITS");
                }
                return 0;
            case "UP":
                depth--;
                return 0;
            default:
                return openLast(part);
        }
    }

    private int openLast(String part) {
        switch (part) {
            case "ATOM":
                if (token.equals("(")) {
                    return deeper("(", "SUM", ")", "UP");
                }
                want(token.matches("[0-9]+") ? "Nany" : variables().contains(token) ? token : "none");
                return 0;
            case "UNIT":
                if (token.equals("not")) {
                    return deeper("not", "UNIT", "UP");
                }
                if (token.equals("[")) {
                    return deeper("[", "TRUTH", "]", "UP");
                }
                want("SUM", "RELATION", "SUM");
                return 0;
            case "RELATION":
                want(List.of("=", "<", ">").contains(token) ? token : "none");
                return 0;
            default:
                return 2;
        }
    }

    private int deeper(String... row) {
        depth++;
        want(row);
        return depth > 6 ? 4 : 0;
    }

    private List<String> variables() {
        return switch (law) {
            case "slips" -> List.of("from", "to", "minute", "call");
            case "likes" -> List.of("who", "whom");
            default -> List.of("from", "to", "minute", "call", "likes", "liked");
        };
    }

    private int rest() {
        if (token.isEmpty()) {
            return 0;
        }
        law = token;
        String[] row = switch (token) {
            case "cord" -> new String[] {"cord", "LINES"};
            case "call" -> new String[] {"call", "Nfrom", "to", "Nto", "at", "Nany", "lasts", "Nlasts"};
            case "minute" -> new String[] {"minute", "Nany"};
            case "slips", "likes" -> new String[] {token, ":", "SUM"};
            case "marries" -> new String[] {token, ":", "TRUTH"};
            default -> new String[] {"none"};
        };
        cords += token.equals("cord") ? 1 : 0;
        calls += token.equals("call") ? 1 : 0;
        if (cords > 3 || calls > 10) {
            return 4;
        }
        String[] whole = Arrays.copyOf(row, row.length + 2);
        whole[row.length] = ";";
        whole[row.length + 1] = "REST";
        want(whole);
        return 0;
    }
}
