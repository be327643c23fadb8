/** Boundary cases of pairs, losses and rules, promises 30 to 39: each sentence that names one has a test of its own. */
public final class BoundsPairsTest {
    public static void main(String[] args) {
        nothingIsDone();
        pairedTwoByTwo();
        leftOver();
        likesMore();
        aloneMoreThan0();
        stableMany();
        partnerFirst();
        partnerLeftOverLast();
        partnerNone();
        leaveAsItIs();
        leaveFirst();
        leaveNone();
        leaveAlone();
        darlingsInSum();
        darlingsFirst();
        darlingsWhoever();
        happiestSum();
        happiestWith();
        happiestFirst();
        happiestOthers();
        lossByNone();
        lossLowest();
        lossEdges();
        fewestAtMost();
        fewestNone();
        fewestEdges();
        ruleNumbers();
        seenThrees();
        rulesModulo();
        ruleKth();
        askWhatever();
        askLeast();
        askFirst();
        askNone();
        Check.quoted(30, 39);
        Check.end();
    }

    private static void nothingIsDone() {
        Check.sentence(0, "A call that throws changes nothing.");
        Twins.unchanged("stable()", 1, Twins::rich, x -> x.stable());
        Twins.unchanged("partner(5)", 4, Twins::rich, x -> x.partner(5));
        Twins.unchanged("leave()", 1, Twins::rich, x -> x.leave());
        Twins.unchanged("darlings()", 45, Twins::rich, x -> x.darlings());
        Twins.unchanged("happiest(0)", 15, Twins::rich, x -> x.happiest(0));
        Twins.unchanged("loss(2, 1, 1, 1)", 5, Twins::rich, x -> x.loss(2, 1, 1, 1));
        Twins.unchanged("fewest(1, 1, 5)", 2, Twins::rich, x -> x.fewest(1, 1, 5));
        Twins.unchanged("rules(2)", 2, Twins::rich, x -> x.rules(2));
        Twins.unchanged("rule(2, 0)", 11, Twins::rich, x -> x.rule(2, 0));
        Twins.unchanged("ask(2)", 0, Twins::rich, x -> x.ask(2));
    }

    /** A law of 3 lines: a row of 10 times who and whom, and how much (a multiple of 4), all others by 0. */
    private static String likes(int... row) {
        StringBuilder law = new StringBuilder("likes:0");
        for (int i = 0; i < row.length; i += 2) {
            law.append("+").append(likesOne(row[i] / 10, row[i] % 10, row[i + 1]));
        }
        return law.append(";").toString();
    }

    /** By (x - a) * (x - b), which is 0 for the two others, 2 for 0 and 2 itself, -1 for 1. */
    private static String likesOne(int who, int whom, int much) {
        int each = (who == 1 ? -1 : 2) * (whom == 1 ? -1 : 2);
        int factor = much / each;
        String times = factor < 0 ? "(0-" + -factor + ")" : String.valueOf(factor);
        return times + "*" + only("who", who) + "*" + only("whom", whom);
    }

    private static String only(String name, int l) {
        int a = l == 0 ? 1 : 0;
        int b = l == 2 ? 1 : 2;
        return "(" + name + "-" + a + ")*(" + name + "-" + b + ")";
    }

    // ---- promises 30 and 31

    private static void pairedTwoByTwo() {
        Check.sentence(0, "PAIRED: all LINES two by two");
        int[] ways = {1, 3, 3, 15, 15, 105, 105};
        for (int lines = 2; lines <= 8; lines++) {
            Check.due("ways of " + lines + ", all alike", Check.told("lines " + lines + ";").stable(), ways[lines - 2]);
        }
        Check.due("a new object's", new CrossedLines().stable(), 1);
    }

    private static void leftOver() {
        Check.sentence(0, "(one is left over, if they are odd)");
        for (int lines = 2; lines <= 8; lines++) {
            CrossedLines x = Check.told("lines " + lines + ";likes:0-1;");
            int alone = 0;
            int aloneHappy = 0;
            for (int l = 0; l < lines; l++) {
                alone += x.partner(l) < 0 ? 1 : 0;
                aloneHappy += x.happiest(10 + l) < 0 ? 1 : 0;
                int with = x.partner(l);
                Check.due("with one another", with < 0 || x.partner(with) == l, true);
            }
            Check.due("left over of " + lines, alone, lines % 2);
            Check.due("left over of the happiest " + lines, aloneHappy, lines % 2);
        }
    }

    private static void likesMore() {
        Check.sentence(0, "each likes the other one more than whom it is with");
        Check.due("0 and 1 more: 01 | 2 alone", Check.told("lines 3;" + likes(1, 8, 10, 8, 2, 4, 20, 4)).stable(), 1);
        Check.due("one of them alone likes more", Check.told("lines 3;" + likes(1, 8, 2, 4, 20, 4)).stable(), 2);
        CrossedLines like = Check.told("lines 3;" + likes(1, 4, 10, 4, 2, 4, 20, 4));
        Check.due("as much isn't more: 01 or 02", like.stable(), 2);
        Check.due("the first of them", like.partner(0), 1);
        CrossedLines more = Check.told("lines 3;" + likes(1, 4, 10, 4, 2, 8, 20, 4));
        Check.due("a little more: 02", more.stable(), 1);
        Check.due("0 is with 2", more.partner(0), 2);
    }

    private static void aloneMoreThan0() {
        Check.sentence(0, "(whoever is alone: more than 0)");
        Check.due("all like by 0", Check.told("lines 3;likes:0;").stable(), 3);
        Check.due("all like by 1: whoever is alone would, but whom it likes is content",
                Check.told("lines 3;likes:1;").stable(), 3);
        Check.due("two that like one another by 4, else 0", Check.told("lines 3;" + likes(1, 4, 10, 4)).stable(), 1);
        Check.due("two that don't by -4", Check.told("lines 3;" + likes(1, -4, 10, -4)).stable(), 3);
        Check.due("one by 4, the other by 0", Check.told("lines 3;" + likes(1, 4)).stable(), 3);
    }

    private static void stableMany() {
        Check.sentence(30, "How many STABLE ways to be PAIRED.");
        Check.due("one likes two, both as well", Check.told("lines 4;likes:(who-whom)*(who-whom);").stable(), 1);
        Check.due("0 likes 1, 1 likes 2, 2 likes 0 more", Check.told("lines 3;"
                + likes(1, 8, 12, 8, 20, 8, 2, 4, 10, 4, 21, 4)).stable(), 0);
        CrossedLines x = Check.told("lines 4;cord;slips:1;marries:1=1;likes:who;call 0 to 1 at 0 lasts 1;");
        int before = x.stable();
        x.minutes(1);
        Check.due("whoever is married", x.stable(), before);
    }

    private static void partnerFirst() {
        Check.sentence(31, "With whom a LINE is in the first of them by the partner of LINE 0, 1 and so on");
        for (int lines = 2; lines <= 8; lines++) {
            CrossedLines x = Check.told("lines " + lines + ";");
            for (int l = 0; l < lines; l++) {
                int with = (l ^ 1) < lines ? l ^ 1 : -1;
                Check.due("partner(" + l + ") of " + lines, x.partner(l), with);
            }
            int none = lines;
            Check.refused("partner(" + none + ")", Check.ELEMENT, () -> x.partner(none));
            Check.refused("partner(-1)", Check.ELEMENT, () -> x.partner(-1));
        }
        // 0 and 1 would rather not: the first is by 0 with 2.
        CrossedLines y = Check.told("lines 4;likes:(who-whom)*(who-whom)-1;");
        Check.due("0 and 3 are one another's best", y.partner(0), 3);
        Check.due("1 and 2 are left to one another", y.partner(1), 2);
    }

    private static void partnerLeftOverLast() {
        Check.sentence(31, "(left over: behind all)");
        CrossedLines x = Check.told("lines 3;");
        Check.due("0 isn't left over, though it could be", x.partner(0), 1);
        Check.due("2 is", x.partner(2), -1);
        CrossedLines y = Check.told("lines 3;" + likes(2, 4, 20, 4));
        Check.due("0 and 2 by need", y.partner(0), 2);
        Check.due("1 is left over", y.partner(1), -1);
        CrossedLines z = Check.told("lines 3;" + likes(12, 4, 21, 4));
        Check.due("0 is left over by need", z.partner(0), -1);
        Check.due("1 and 2", z.partner(1), 2);
    }

    private static void partnerNone() {
        Check.sentence(31, "NONE: left over, there is none.");
        CrossedLines x = Check.told("lines 3;" + likes(1, 8, 12, 8, 20, 8, 2, 4, 10, 4, 21, 4));
        for (int l = 0; l < 3; l++) {
            Check.due("none is stable: partner(" + l + ")", x.partner(l), -1);
        }
        Check.refused("partner(3)", Check.ELEMENT, () -> x.partner(3));
        Check.exchange(x, "lines 3;");
        Check.due("another text: partner(0)", x.partner(0), 1);
    }

    // ---- promises 32 and 33

    private static void leaveAsItIs() {
        Check.sentence(0, "As it is: by who is MARRIED.");
        CrossedLines x = Check.told("lines 3;cord;slips:1;marries:1=1;" + likes(2, 4, 20, 4, 1, 4, 10, 8)
                + "call 0 to 1 at 0 lasts 1;");
        Check.due("all alone", x.leave(), 1);
        x.minutes(1);
        Check.due("0 is married to 2", x.line(0, 1), 2);
        Check.due("0 likes 1 as much as 2", x.leave(), -1);
        x.undo(1);
        Check.due("undone", x.leave(), 1);
        CrossedLines on = Check.told("lines 3;cord;" + likes(1, 4, 10, 4) + "call 0 to 1 at 0 lasts 9;");
        on.minutes(1);
        Check.due("to speak isn't to be married", on.leave(), 1);
    }

    private static void leaveFirst() {
        Check.sentence(32, "the first two who would LEAVE: 10 times the lesser, and the other");
        Check.due("0 and 1", Check.told("lines 8;likes:1;").leave(), 1);
        Check.due("0 and 7 alone", Check.told("lines 8;likes:(who-whom)*(who-whom)-48;").leave(), 7);
        Check.due("6 and 7 alone", Check.told("lines 8;likes:who+whom-12;").leave(), 67);
        Check.due("0 and 2 ahead of 1 and 2", Check.told("lines 3;" + likes(2, 4, 20, 4, 12, 8, 21, 8)).leave(), 2);
        Check.due("1 and 2", Check.told("lines 3;" + likes(2, 4, 12, 8, 21, 8)).leave(), 12);
    }

    private static void leaveNone() {
        Check.sentence(32, "NONE: none would.");
        Check.due("a new object's", new CrossedLines().leave(), -1);
        Check.due("by 0", Check.told("lines 8;likes:0;").leave(), -1);
        Check.due("below 0", Check.told("lines 8;likes:0-1;").leave(), -1);
        Check.due("themselves alone", Check.told("lines 3;" + likes(0, 4, 11, 4, 22, 4)).leave(), -1);
    }

    private static void leaveAlone() {
        Check.sentence(0, "Two would LEAVE: they aren't together");
        CrossedLines x = Check.told("lines 3;cord;slips:1;marries:1=1;likes:5;call 0 to 1 at 0 lasts 1;");
        x.minutes(1);
        Check.due("0 and 2 are together, 1 is alone: as much isn't more", x.leave(), -1);
        Check.sentence(0, "(whoever is alone: more than 0)");
        String text = "lines 4;cord;slips:1;marries:1=1;call 0 to 1 at 0 lasts 1;";
        CrossedLines sad = Check.told(text + "likes:5*who*whom-5;");
        sad.minutes(1);
        Check.due("2 is with 0 by -5, 1 alone, they like one another by 5", sad.leave(), 12);
        CrossedLines sadder = Check.told(text + "likes:who*whom-9;");
        sadder.minutes(1);
        Check.due("1 and 3 are alone, and like nobody more than 0", sadder.leave(), -1);
        CrossedLines zero = Check.told(text + "likes:0;");
        zero.minutes(1);
        Check.due("1 and 3 are alone, and like one another by 0", zero.leave(), -1);
    }

    private static void darlingsInSum() {
        Check.sentence(33, "The two (MARRIED or not) who like each other most in sum");
        Check.due("one by 8, the other by -4, or both by 1", Check.told("lines 3;" + likes(2, 8, 20, -4)).darlings(), 2);
        Check.due("in sum below", Check.told("lines 3;" + likes(2, 4, 20, -8, 12, 4, 21, -4)).darlings(), 1);
        Check.due("themselves aren't asked", Check.told("lines 3;" + likes(0, 8, 22, 8, 21, 4)).darlings(), 12);
        Check.due("the last two", Check.told("lines 8;likes:who*whom;").darlings(), 67);
        Check.due("by millions", Check.told("lines 3;likes:999*999*999*whom-999*999;").darlings(), 12);
    }

    private static void darlingsFirst() {
        Check.sentence(33, "most in sum, the first, as leave()");
        for (int lines = 2; lines <= 8; lines++) {
            Check.due("all alike by 0", Check.told("lines " + lines + ";").darlings(), 1);
            Check.due("all alike below 0", Check.told("lines " + lines + ";likes:0-999*999*999;").darlings(), 1);
        }
        Check.due("0 and 2, 1 and 2 alike", Check.told("lines 3;" + likes(2, 4, 21, 4)).darlings(), 2);
        Check.due("0 and 7, 3 and 4", Check.told("lines 8;likes:0-(who+whom-7)*(who+whom-7);").darlings(), 7);
    }

    private static void darlingsWhoever() {
        Check.sentence(33, "(MARRIED or not)");
        CrossedLines x = Check.told("lines 3;cord;slips:1;marries:1=1;" + likes(2, 8, 20, 8) + "call 0 to 1 at 0 lasts 1;");
        Check.due("not yet", x.darlings(), 2);
        x.minutes(1);
        Check.due("married", x.darlings(), 2);
    }

    // ---- promise 34

    private static void happiestSum() {
        Check.sentence(34, "The way to be PAIRED with the greatest sum of how much all like whom they are with, what 0: the sum");
        Check.due("a new object's", new CrossedLines().happiest(0), 0);
        Check.due("both ways count", Check.told("lines 2;likes:who+1;").happiest(0), 3);
        Check.due("below 0", Check.told("lines 2;likes:0-who-1;").happiest(0), -3);
        Check.due("all must be with one, but one of an odd number", Check.told("lines 3;" + likes(1, -4, 2, -4, 12, -4)).happiest(0),
                -4);
        Check.due("not stable, yet the greatest", Check.told("lines 4;likes:100-(who-whom)*(who-whom);").happiest(0), 396);
        Check.due("8 millions", Check.told("lines 8;likes:999*999*999;").happiest(0), 8000000);
        Check.due("8 millions below", Check.told("lines 8;likes:0-999*999*999;").happiest(0), -8000000);
        Check.due("of seven", Check.told("lines 7;likes:999*999*999;").happiest(0), 6000000);
    }

    private static void happiestWith() {
        Check.sentence(34, "10 + l: with whom LINE l is (NONE: left over; no such LINE)");
        for (int lines = 2; lines <= 8; lines++) {
            CrossedLines x = Check.told("lines " + lines + ";likes:(who-whom)*(who-whom)*(0-1);");
            for (int l = 0; l < 8; l++) {
                int with = l < lines && (l ^ 1) < lines ? l ^ 1 : -1;
                Check.due("happiest(" + (10 + l) + ") of " + lines, x.happiest(10 + l), with);
            }
        }
        CrossedLines y = Check.told("lines 3;" + likes(12, 4));
        Check.due("0 is left over", y.happiest(10), -1);
        Check.due("1 and 2", y.happiest(11), 2);
        Check.exchange(y, "lines 8;");
        y.happiest(17);
        Check.exchange(y, "lines 2;");
        Check.due("no such line any more", y.happiest(12), -1);
        Check.due("0 and 1", y.happiest(10), 1);
    }

    private static void happiestFirst() {
        Check.sentence(34, "the first by partners as above");
        CrossedLines x = Check.told("lines 5;");
        int[] with = {1, 0, 3, 2, -1};
        for (int l = 0; l < 5; l++) {
            Check.due("all alike: with whom " + l, x.happiest(10 + l), with[l]);
        }
        CrossedLines y = Check.told("lines 3;" + likes(12, 4, 20, 4));
        Check.due("0 and 2, or 1 and 2: the first", y.happiest(10), 2);
        CrossedLines z = Check.told("lines 4;likes:whom*whom-who*whom*2;");
        Check.due("by sums alike in two ways the first", z.happiest(10) > 0, true);
    }

    private static void happiestOthers() {
        Check.sentence(34, "another what (10 to 17)");
        CrossedLines x = Check.told("lines 8;");
        for (int what : new int[] {Integer.MIN_VALUE, -1, 1, 2, 9, 18, 19, Integer.MAX_VALUE}) {
            Check.refused("happiest(" + what + ")", Check.ARGUMENT, () -> x.happiest(what));
        }
        Check.due("happiest(10)", x.happiest(10), 1);
        Check.due("happiest(17)", x.happiest(17), 6);
    }

    // ---- promises 35 and 36

    private static void lossByNone() {
        Check.sentence(0, "1 by 0 CORDS");
        CrossedLines x = new CrossedLines();
        for (int p = 1; p <= 20; p++) {
            for (int q = 1; q <= 20; q += 19) {
                Check.due("above", x.loss(0, p, q, 0), 1);
                Check.due("below", x.loss(0, p, q, 1), 1);
            }
        }
    }

    private static void lossLowest() {
        Check.sentence(0, "by c: p L by (q c and p L), L being that by c less 1: in lowest terms");
        CrossedLines x = new CrossedLines();
        // 1 by 1: 1/2, 1/5, 1/16, 1/65; 2 by 1: 2/3, 2/5, 4/19, 2/21; 1 by 2: 1/3, 1/13, 1/79.
        long[][] want = {{1, 1, 1, 1, 2}, {2, 1, 1, 1, 5}, {3, 1, 1, 1, 16}, {4, 1, 1, 1, 65}, {1, 2, 1, 2, 3}, {2, 2, 1, 2, 5},
            {3, 2, 1, 4, 19}, {4, 2, 1, 2, 21}, {1, 1, 2, 1, 3}, {2, 1, 2, 1, 13}, {3, 1, 2, 1, 79}, {1, 2, 2, 1, 2},
            {1, 20, 20, 1, 2}, {8, 20, 20, 1, 109601}, {8, 1, 1, 1, 109601}, {1, 20, 1, 20, 21}, {2, 20, 1, 200, 221}};
        for (long[] w : want) {
            String call = "loss(" + w[0] + ", " + w[1] + ", " + w[2] + ", ";
            Check.due(call + "0)", x.loss((int) w[0], (int) w[1], (int) w[2], 0), w[3]);
            Check.due(call + "1)", x.loss((int) w[0], (int) w[1], (int) w[2], 1), w[4]);
        }
    }

    private static void lossEdges() {
        Check.sentence(35, "LOSS by c CORDS (0 to 8), p by q (1 to 20 each), what 0: the number above, 1: below.");
        CrossedLines x = new CrossedLines();
        // By 8 cords: p^8 by the sum of p^k q^(8-k) 8!/k!.
        for (int p = 1; p <= 20; p++) {
            for (int q = 1; q <= 20; q++) {
                long above = 1;
                long below = 1;
                long[] powers = new long[9];
                powers[0] = 1;
                for (int k = 1; k <= 8; k++) {
                    powers[k] = powers[k - 1] * p;
                }
                above = powers[8];
                below = 0;
                long term = 1;
                for (int k = 8; k >= 0; k--) {
                    below += powers[k] * term;
                    term = term * q * k;
                }
                long common = gcd(above, below);
                Check.due("loss(8, " + p + ", " + q + ", 0)", x.loss(8, p, q, 0), above / common);
                Check.due("loss(8, " + p + ", " + q + ", 1)", x.loss(8, p, q, 1), below / common);
            }
        }
        int[][] bad = {{-1, 1, 1, 0}, {9, 1, 1, 0}, {8, 0, 1, 0}, {8, 21, 1, 0}, {8, 1, 0, 0}, {8, 1, 21, 0}, {8, 1, 1, -1},
            {8, 1, 1, 2}};
        for (int[] b : bad) {
            Check.refused("loss" + java.util.Arrays.toString(b), Check.ARGUMENT, () -> x.loss(b[0], b[1], b[2], b[3]));
        }
    }

    private static long gcd(long a, long b) {
        return b == 0 ? a : gcd(b, a % b);
    }

    private static void fewestAtMost() {
        Check.sentence(36, "The fewest CORDS by which LOSS is 1 by m (1 to 999) at most");
        CrossedLines x = new CrossedLines();
        int[][] want = {{1, 1, 1, 0}, {1, 1, 2, 1}, {1, 1, 3, 2}, {1, 1, 5, 2}, {1, 1, 6, 3}, {1, 1, 16, 3}, {1, 1, 17, 4},
            {1, 1, 65, 4}, {1, 1, 66, 5}, {20, 1, 1, 0}, {1, 20, 21, 1}, {1, 20, 22, 2}, {1, 20, 841, 2}, {1, 20, 842, 3},
            {1, 20, 999, 3}};
        for (int[] w : want) {
            Check.due("fewest(" + w[0] + ", " + w[1] + ", " + w[2] + ")", x.fewest(w[0], w[1], w[2]), w[3]);
        }
    }

    private static void fewestNone() {
        Check.sentence(36, "NONE: 8 don't do.");
        CrossedLines x = new CrossedLines();
        Check.due("20 by 1: 1 by 2", x.fewest(20, 1, 2), -1);
        Check.due("20 by 1: 1 by 999", x.fewest(20, 1, 999), -1);
        int edges = 0;
        for (int p = 1; p <= 20; p++) {
            CrossedLines y = new CrossedLines();
            for (int q = 1; q <= 20; q++) {
                int most = (int) Math.min(999, y.loss(8, p, q, 1) / y.loss(8, p, q, 0));
                if (most < 999) {
                    edges++;
                    Check.due("8 do: fewest(" + p + ", " + q + ", " + most + ")", y.fewest(p, q, most) >= 0, true);
                    Check.due("8 don't: fewest(" + p + ", " + q + ", " + (most + 1) + ")", y.fewest(p, q, most + 1), -1);
                }
            }
        }
        Check.due("some edges", edges > 20, true);
    }

    private static void fewestEdges() {
        Check.sentence(36, "IllegalArgumentException: these.");
        CrossedLines x = new CrossedLines();
        int[][] bad = {{0, 1, 1}, {21, 1, 1}, {1, 0, 1}, {1, 21, 1}, {1, 1, 0}, {1, 1, 1000}, {-1, 1, 1}, {1, -1, 1}, {1, 1, -1}};
        for (int[] b : bad) {
            Check.refused("fewest" + java.util.Arrays.toString(b), Check.ARGUMENT, () -> x.fewest(b[0], b[1], b[2]));
        }
        Check.due("fewest(20, 20, 999)", x.fewest(20, 20, 999), 6);
        Check.due("fewest(20, 20, 1)", x.fewest(20, 20, 1), 0);
    }

    // ---- promises 37 to 39

    private static void seen(CrossedLines x, long... threes) {
        Check.tray(x, 0, threes);
    }

    private static void ruleNumbers() {
        Check.sentence(0, "A RULE of SLIPS: u and v, each 0 to LINES less 1");
        for (int lines = 2; lines <= 8; lines++) {
            CrossedLines x = Check.told("lines " + lines + ";");
            seen(x, 0, 0, 0);
            Check.due("v is 0, any u: of " + lines, x.rules(0), lines);
            for (int u = 0; u < lines; u++) {
                Check.due("rule(0, " + u + ")", x.rule(0, u), 10 * u);
            }
            Check.due("not so many", x.rule(0, lines), -1);
            seen(x, 1, 0, lines - 1, 0, 0, lines - 1);
            Check.due("u is 0, v the last one", x.rule(0, 0), lines - 1);
            Check.due("that alone", x.rules(0), 1);
            seen(x, 1, 0, lines - 1, 0, 0, 0);
            Check.due("u is the last one, v is 0", x.rule(0, 0), 10 * (lines - 1));
        }
    }

    private static void seenThrees() {
        Check.sentence(0, "SEEN in a TRAY (1 to 5 threes of numbers: LINE from, to, come to)");
        CrossedLines x = Check.told("lines 8;");
        for (int many = 0; many <= 10; many++) {
            long[] row = new long[3 * many];
            for (int i = 0; i < many; i++) {
                row[3 * i] = i % 8;
                row[3 * i + 2] = 3 * i % 8;
            }
            seen(x, row);
            if (many >= 1 && many <= 5) {
                Check.due("rules of " + many, x.rules(0), many == 1 ? 8 : 1);
                Check.due("the rule", x.rule(0, many == 1 ? 3 : 0), 30);
            } else {
                Check.refused("rules of " + many, Check.ARGUMENT, () -> x.rules(0));
            }
        }
        seen(x, 5, 5, 5);
        Check.due("from and to may be one", x.rules(0), 8);
    }

    private static void rulesModulo() {
        Check.sentence(0, "a CALL comes to u times the LINE it is from, and the LINE it is to, and v, modulo LINES");
        CrossedLines x = Check.told("lines 8;");
        seen(x, 7, 7, (7 * 7 + 7 + 7) % 8, 6, 7, (7 * 6 + 7 + 7) % 8);
        Check.sentence(37, "SEEN: how many RULES.");
        Check.due("rules", x.rules(0), 1);
        Check.due("u and v are 7", x.rule(0, 0), 77);
        seen(x, 4, 0, 4);
        Check.due("4 u and v is 4", x.rules(0), 8);
        Check.due("the first: 4 of v", x.rule(0, 0), 4);
        Check.due("then 1 and 0", x.rule(0, 1), 10);
        Check.due("then 2 and 4", x.rule(0, 2), 24);
        seen(x, 0, 0, 1, 0, 0, 2);
        Check.due("none", x.rules(0), 0);
    }

    private static void ruleKth() {
        Check.sentence(38, "The k-th of them, by 10 times u and v; NONE: not so many.");
        CrossedLines x = Check.told("lines 3;");
        seen(x, 1, 1, 0);
        int[] want = {2, 11, 20, -1, -1};
        for (int k = 0; k < want.length; k++) {
            Check.due("rule(0, " + k + ")", x.rule(0, k), want[k]);
        }
        Check.due("rule(0, MAX_VALUE)", x.rule(0, Integer.MAX_VALUE), -1);
        Check.refused("rule(0, -1)", Check.ARGUMENT, () -> x.rule(0, -1));
        Check.refused("rule(0, MIN_VALUE)", Check.ARGUMENT, () -> x.rule(0, Integer.MIN_VALUE));
    }

    private static void askWhatever() {
        Check.sentence(39, "The CALL (whatever it is) that tells most");
        CrossedLines x = Check.told("lines 6;cord;call 1 to 0 at 0 lasts 1;call 2 to 0 at 5 lasts 9;call 3 to 0 at 5 lasts 1;"
                + "call 5 to 0 at 9 lasts 1;minute 5;");
        seen(x, 0, 0, 0);
        Check.due("a lost one", x.ask(0), 0);
        x.minutes(1);
        Check.due("whatever is on by now", x.ask(0), 0);
        seen(x, 1, 0, 0);
        Check.due("one that is on tells as much as the last", x.ask(0), 1);
        x.minutes(30);
        Check.due("one that is over", x.ask(0), 1);
    }

    private static void askLeast() {
        Check.sentence(39, "the greatest number of these RULES by which it comes to one and the same LINE is least");
        CrossedLines x = Check.told("lines 4;call 0 to 1 at 0 lasts 1;call 2 to 1 at 0 lasts 1;call 1 to 3 at 0 lasts 1;");
        seen(x, 0, 0, 0);
        Check.due("by 0 four alike, by 2 two, by 1 one", x.ask(0), 2);
        x = Check.told("lines 4;call 0 to 1 at 0 lasts 1;call 2 to 1 at 0 lasts 1;");
        seen(x, 0, 0, 0);
        Check.due("by 0 four alike, by 2 two", x.ask(0), 1);
    }

    private static void askFirst() {
        Check.sentence(39, "is least, the first");
        CrossedLines x = Check.told("lines 4;call 0 to 1 at 0 lasts 1;call 1 to 3 at 0 lasts 1;call 3 to 1 at 0 lasts 1;");
        seen(x, 0, 0, 0);
        Check.due("1 and 3 tell alike", x.ask(0), 1);
        seen(x, 0, 0, 0, 1, 0, 0);
        Check.due("one rule is left: all alike", x.ask(0), 0);
    }

    private static void askNone() {
        Check.sentence(39, "NONE: there are none, no CALLS.");
        CrossedLines x = Check.told("lines 4;call 0 to 1 at 0 lasts 1;");
        seen(x, 0, 0, 0, 0, 0, 1);
        Check.due("no rules", x.ask(0), -1);
        CrossedLines y = Check.told("lines 4;");
        seen(y, 0, 0, 0);
        Check.due("no calls", y.ask(0), -1);
        y.dial(2, 3, 1);
        Check.due("a dialled one", y.ask(0), 0);
    }
}
