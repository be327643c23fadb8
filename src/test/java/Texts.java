import java.util.Random;

/** Random texts of exchanges without faults. */
final class Texts {
    private final Random random;

    Texts(Random random) {
        this.random = random;
    }

    String exchange() {
        int lines = 2 + random.nextInt(7);
        StringBuilder told = new StringBuilder("lines " + lines + ";");
        for (int k = random.nextInt(4); k > 0; k--) {
            told.append("cord");
            for (int i = random.nextInt(lines + 2); i > 0; i--) {
                told.append(' ').append(random.nextInt(lines));
            }
            told.append(';');
        }
        int span = 5 + random.nextInt(30);
        int start = random.nextBoolean() ? 0 : random.nextInt(1000 - span);
        for (int c = random.nextInt(11); c > 0; c--) {
            int from = random.nextInt(lines);
            int to = (from + 1 + random.nextInt(lines - 1)) % lines;
            told.append("call ").append(from).append(" to ").append(to).append(" at ").append(start + random.nextInt(span))
                    .append(" lasts ").append(1 + random.nextInt(9)).append(';');
        }
        if (random.nextInt(3) > 0) {
            told.append("slips:").append(sum(0, "from", "to", "minute", "call")).append(';');
        }
        if (random.nextInt(4) > 0) {
            told.append("likes:").append(sum(0, "who", "whom")).append(';');
        }
        if (random.nextInt(4) > 0) {
            told.append("marries:").append(truth(0)).append(';');
        }
        return told.append("minute ").append(start + random.nextInt(4)).append(';').toString();
    }

    private String sum(int depth, String... variables) {
        StringBuilder told = new StringBuilder();
        for (int i = random.nextInt(3); i >= 0; i--) {
            told.append(term(depth, variables)).append(i == 0 ? "" : random.nextBoolean() ? "+" : " - ");
        }
        return told.toString();
    }

    private String term(int depth, String... variables) {
        StringBuilder told = new StringBuilder();
        for (int i = random.nextInt(2); i >= 0; i--) {
            int sort = random.nextInt(depth < 2 ? 4 : 3);
            told.append(sort == 3 ? "(" + sum(depth + 1, variables) + ")"
                    : sort == 2 ? String.valueOf(random.nextInt(random.nextInt(9) == 0 ? 1000 : 9))
                    : variables[random.nextInt(variables.length)]);
            told.append(i == 0 ? "" : "*");
        }
        return told.toString();
    }

    private String truth(int depth) {
        StringBuilder told = new StringBuilder();
        for (int i = random.nextInt(3); i >= 0; i--) {
            told.append(unit(depth)).append(i == 0 ? "" : random.nextBoolean() ? " or " : " and ");
        }
        return told.toString();
    }

    private String unit(int depth) {
        int sort = random.nextInt(depth < 2 ? 5 : 3);
        if (sort == 4) {
            return "not " + unit(depth + 1);
        }
        if (sort == 3) {
            return "[" + truth(depth + 1) + "]";
        }
        String[] variables = {"from", "to", "minute", "call", "likes", "liked"};
        return sum(2, variables) + "=<>".charAt(random.nextInt(3)) + sum(2, variables);
    }
}
