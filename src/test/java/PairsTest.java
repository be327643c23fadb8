import java.math.BigInteger;

/** Promises 30 to 39: pairs, losses, rules. */
public final class PairsTest {
    public static void main(String[] args) {
        stable();
        noneStable();
        leave();
        darlings();
        happiest();
        loss();
        fewest();
        rules();
        ask();
        rulesArguments();
        Check.end();
    }

    private static void stable() {
        int[] ways = {1, 3, 3, 15, 15, 105, 105};
        for (int lines = 2; lines <= 8; lines++) {
            CrossedLines x = Check.told("lines " + lines + ";");
            Check.due("all alike by " + lines, x.stable(), ways[lines - 2]);
            for (int l = 0; l < lines; l++) {
                int with = (l ^ 1) < lines ? l ^ 1 : -1;
                Check.due("partner(" + l + ") of " + lines, x.partner(l), with);
                Check.due("happiest(1" + l + ") of " + lines, x.happiest(10 + l), with);
            }
        }
        CrossedLines x = Check.told("lines 4;likes:(who-whom)*(who-whom);");
        Check.due("the far ones", x.stable(), 1);
        Check.due("partner(0)", x.partner(0), 3);
        Check.due("partner(1)", x.partner(1), 2);
        CrossedLines sad = Check.told("lines 3;likes:whom-2-who*whom*9;");
        Check.due("alone rather than with 0", sad.partner(0), 1);
        Check.refused("partner(4)", Check.ELEMENT, () -> x.partner(4));
        Check.refused("partner(-1)", Check.ELEMENT, () -> x.partner(-1));
    }

    /** 0 likes 1 most, 1 likes 2, 2 likes 0, all more than 0: whoever is left over is liked best by one. */
    private static void noneStable() {
        String round = "likes:100-(whom-who-1)*(whom-who+2)*(whom-who-1)*(whom-who+2);";
        CrossedLines x = Check.told("lines 3;" + round);
        Check.due("none is stable", x.stable(), 0);
        Check.due("with none", x.partner(0), -1);
        Check.due("the happiest all the same", x.happiest(0), 196);
        Check.due("0 and 1, the first", x.happiest(10), 1);
    }

    private static void leave() {
        CrossedLines x = Check.told("lines 4;cord;slips:1;likes:1-who*whom;marries:1=1;call 1 to 0 at 0 lasts 1;"
                + "call 2 to 1 at 0 lasts 1;call 2 to 2 at 1 lasts 1;".replace("2 to 2", "3 to 1"));
        Check.due("alone, more than 0", x.leave(), 1);
        Check.due("none would", new CrossedLines().leave(), -1);
        CrossedLines y = Check.told("lines 4;cord;slips:1;likes:whom-who*0;marries:1=1;call 1 to 2 at 0 lasts 1;"
                + "call 0 to 1 at 1 lasts 1;");
        Check.due("1 and 2, whom all like", y.leave(), 12);
        y.minutes(1);
        Check.due("1 and 3 are together: 2 has none above 0 but 1", y.line(1, 1), 3);
        Check.due("2 and 3", y.leave(), 23);
        CrossedLines z = Check.told("lines 3;cord;slips:1;likes:whom;marries:1=1;call 0 to 1 at 0 lasts 1;");
        z.minutes(1);
        Check.due("0 has the best, 2 likes 1 more than 0, 1 likes 2", z.leave(), 12);
        CrossedLines like = Check.told("lines 3;cord;slips:1;likes:1;marries:1=1;call 0 to 1 at 0 lasts 1;");
        like.minutes(1);
        Check.due("as much isn't more", like.leave(), -1);
    }

    private static void darlings() {
        Check.due("the first of like ones", Check.told("lines 8;").darlings(), 1);
        Check.due("most", Check.told("lines 8;likes:who;").darlings(), 67);
        Check.due("in sum", Check.told("lines 4;likes:10*who-9*whom;").darlings(), 23);
        Check.due("below 0", Check.told("lines 4;likes:0-who-whom-1;").darlings(), 1);
    }

    private static void happiest() {
        CrossedLines x = Check.told("lines 5;likes:who*whom;");
        Check.due("sum", x.happiest(0), 28);
        int[] with = {-1, 2, 1, 4, 3};
        for (int l = 0; l < 8; l++) {
            Check.due("with whom " + l, x.happiest(10 + l), l < 5 ? with[l] : -1);
        }
        CrossedLines below = Check.told("lines 4;likes:0-who*whom-1;");
        Check.due("below 0", below.happiest(0), -4 - 4);
        for (int what : new int[] {-1, 1, 9, 18}) {
            Check.refused("happiest(" + what + ")", Check.ARGUMENT, () -> x.happiest(what));
        }
        Check.due("sums of millions", Check.told("lines 8;likes:999*999*999;").happiest(0), 8000000);
    }

    private static void loss() {
        CrossedLines x = new CrossedLines();
        for (int p = 1; p <= 20; p++) {
            for (int q = 1; q <= 20; q++) {
                BigInteger above = BigInteger.ONE;
                BigInteger below = BigInteger.ONE;
                int fewest = -1;
                for (int c = 0; c <= 8; c++) {
                    if (c > 0) {
                        BigInteger lost = above.multiply(BigInteger.valueOf(p));
                        below = below.multiply(BigInteger.valueOf(q * c)).add(lost);
                        above = lost;
                    }
                    BigInteger common = above.gcd(below);
                    String what = "loss(" + c + ", " + p + ", " + q;
                    Check.due(what + ", 0)", x.loss(c, p, q, 0), above.divide(common).longValueExact());
                    Check.due(what + ", 1)", x.loss(c, p, q, 1), below.divide(common).longValueExact());
                    if (fewest < 0 && above.multiply(BigInteger.valueOf(37)).compareTo(below) <= 0) {
                        fewest = c;
                    }
                }
                Check.due("fewest(" + p + ", " + q + ", 37)", x.fewest(p, q, 37), fewest);
            }
        }
        int[][] bad = {{-1, 1, 1, 0}, {9, 1, 1, 0}, {1, 0, 1, 0}, {1, 21, 1, 0}, {1, 1, 0, 0}, {1, 1, 21, 0}, {1, 1, 1, 2},
            {1, 1, 1, -1}};
        for (int[] b : bad) {
            Check.refused("loss" + java.util.Arrays.toString(b), Check.ARGUMENT, () -> x.loss(b[0], b[1], b[2], b[3]));
        }
    }

    private static void fewest() {
        CrossedLines x = new CrossedLines();
        Check.due("just 1 by m", x.fewest(1, 1, 16), 3);
        Check.due("below 1 by m", x.fewest(1, 1, 17), 4);
        Check.due("1 by 1", x.fewest(20, 1, 1), 0);
        Check.due("8 don't do", x.fewest(20, 1, 2), -1);
        int[][] bad = {{0, 1, 1}, {21, 1, 1}, {1, 0, 1}, {1, 21, 1}, {1, 1, 0}, {1, 1, 1000}};
        for (int[] b : bad) {
            Check.refused("fewest" + java.util.Arrays.toString(b), Check.ARGUMENT, () -> x.fewest(b[0], b[1], b[2]));
        }
    }

    private static void rules() {
        CrossedLines x = Check.told("lines 8;");
        Check.tray(x, 0, 2, 3, 7);
        int k = 0;
        for (int u = 0; u < 8; u++) {
            for (int v = 0; v < 8; v++) {
                if ((2 * u + 3 + v) % 8 == 7) {
                    Check.due("rule(0, " + k + ")", x.rule(0, k), 10 * u + v);
                    k++;
                }
            }
        }
        Check.due("rules(0)", x.rules(0), k);
        Check.due("not so many", x.rule(0, k), -1);
        Check.due("far from so many", x.rule(0, Integer.MAX_VALUE), -1);
        Check.tray(x, 0, 2, 3, 7, 2, 3, 6);
        Check.due("none", x.rules(0), 0);
        Check.due("none: rule", x.rule(0, 0), -1);
        Check.tray(x, 0, 2, 3, 7, 3, 3, 0, 0, 0, 2, 1, 1, 4, 7, 7, 0);
        Check.due("five threes", x.rules(0), 1);
        Check.due("u 1 and v 2", x.rule(0, 0), 12);
        Check.tray(x, 0, 5, 5, 5);
        Check.due("from and to one line", x.rules(0), 8);
    }

    private static void ask() {
        CrossedLines x = Check.told("lines 6;call 0 to 1 at 0 lasts 1;call 3 to 1 at 0 lasts 1;call 2 to 1 at 0 lasts 1;"
                + "call 1 to 4 at 5 lasts 1;call 5 to 4 at 5 lasts 1;minute 3;");
        Check.tray(x, 0, 0, 1, 2);
        Check.due("the first that tells all, to come", x.ask(0), 3);
        Check.tray(x, 0, 1, 1, 2);
        Check.due("a lost one, too", x.ask(0), 0);
        Check.tray(x, 0, 1, 1, 2, 0, 1, 2);
        Check.due("one rule: the first", x.ask(0), 0);
        Check.tray(x, 0, 1, 1, 2, 1, 1, 3);
        Check.due("no rules", x.ask(0), -1);
        CrossedLines y = Check.told("lines 6;");
        Check.tray(y, 0, 1, 1, 2);
        Check.due("no calls", y.ask(0), -1);
    }

    private static void rulesArguments() {
        CrossedLines x = Check.told("lines 4;call 0 to 1 at 0 lasts 1;");
        long[][] bad = {{}, {0}, {0, 1}, {0, 1, 2, 3}, {0, 1, 4}, {-1, 1, 2}, {0, 1L << 32, 2},
            {0, 0, 0, 0, 0, 0, 0, 0, 0, 0, 0, 0, 0, 0, 0, 0, 0, 0}};
        for (long[] row : bad) {
            Check.tray(x, 0, row);
            String told = java.util.Arrays.toString(row);
            Check.refused("rules by " + told, Check.ARGUMENT, () -> x.rules(0));
            Check.refused("rule by " + told, Check.ARGUMENT, () -> x.rule(0, 0));
            Check.refused("ask by " + told, Check.ARGUMENT, () -> x.ask(0));
        }
        Check.tray(x, 0, 0, 1, 2);
        Check.refused("rule(0, -1)", Check.ARGUMENT, () -> x.rule(0, -1));
        Check.refused("rules(4)", Check.ELEMENT, () -> x.rules(4));
        Check.refused("rules(1)", Check.STATE, () -> x.rules(1));
        Check.refused("rule(-1, -1)", Check.ELEMENT, () -> x.rule(-1, -1));
        Check.refused("rule(1, -1)", Check.STATE, () -> x.rule(1, -1));
        Check.refused("ask(4)", Check.ELEMENT, () -> x.ask(4));
        Check.refused("ask(1)", Check.STATE, () -> x.ask(1));
    }
}
