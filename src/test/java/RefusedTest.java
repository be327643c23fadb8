import java.util.Arrays;

/** Each refused call: what it throws or answers, which of several throws comes, and that it changes nothing. */
public final class RefusedTest {
    private static final int LEAST = Integer.MIN_VALUE;
    private static final int MOST = Integer.MAX_VALUE;

    public static void main(String[] args) {
        tape();
        exchangeState();
        deeds();
        toldDeeds();
        toCome();
        cords();
        slips();
        pairs();
        losses();
        rules();
        trays();
        images();
        refusedAtFirst();
        Check.end();
    }

    private static void argument(String what, Twins.Asking asking) {
        Twins.refused(what, Check.ARGUMENT, Twins::rich, asking);
    }

    private static void element(String what, Twins.Asking asking) {
        Twins.refused(what, Check.ELEMENT, Twins::rich, asking);
    }

    private static void state(String what, Twins.Asking asking) {
        Twins.refused(what, Check.STATE, Twins::rich, asking);
    }

    private static void answers(String what, long want, Twins.Asking asking) {
        Twins.unchanged(what, want, Twins::rich, asking);
    }

    private static void tape() {
        Check.sentence(2, "NONE, and nothing changes, if there would be more than 900.");
        Twins.Setting full = x -> {
            Twins.rich(x);
            for (int i = 0; i < 44; i++) {
                x.feed(0x20202020, 0x20202020, 0x20202020, 0x20202020, 0x3b202020);
            }
        };
        Twins.unchanged("feed beyond 900", -1, full, x -> x.feed(0, 0, 0, 0, 0));
        CrossedLines x = new CrossedLines();
        full.tell(x);
        x.feed(0, 0, 0, 0, 0);
        Check.due("what was on the tape ahead of it", x.exchange(28), 1);
        Check.sentence(3, "IllegalArgumentException: n is below 0 or above what it has.");
        for (int n : new int[] {LEAST, -1, 21, MOST}) {
            argument("exchange(" + n + ")", y -> y.exchange(n));
        }
        Twins.refused("exchange(901)", Check.ARGUMENT, full, y -> y.exchange(901));
        Check.sentence(0, "A call that throws changes nothing.");
        Twins.alike("the tape behind a throw", y -> {
            Twins.rich(y);
            Check.refused("exchange(21)", Check.ARGUMENT, () -> y.exchange(21));
            y.exchange(20);
        }, y -> {
            Twins.rich(y);
            y.exchange(20);
        });
    }

    private static void exchangeState() {
        for (int bad : new int[] {LEAST, -1, 6, 7, 8, MOST}) {
            Check.sentence(5, "NoSuchElementException: no such LINE (as everywhere)");
            element("line(" + bad + ", 0)", x -> x.line(bad, 0));
            element("line(" + bad + ", 3), the throw that is told first", x -> x.line(bad, 3));
            Check.sentence(8, "How much a LINE likes another one (or itself).");
            element("likes(" + bad + ", 0)", x -> x.likes(bad, 0));
            element("likes(0, " + bad + ")", x -> x.likes(0, bad));
            Check.sentence(7, "NoSuchElementException: no such CALL (as everywhere)");
            element("call(" + bad + ", 0)", x -> x.call(bad, 0));
            element("call(" + bad + ", 7), the throw that is told first", x -> x.call(bad, 7));
            Check.sentence(9, "The LINE to which a CALL would come in n MINUTES (0 to 999)");
            element("comesTo(" + bad + ", 0)", x -> x.comesTo(bad, 0));
            element("comesTo(" + bad + ", 1000), the throw that is told first", x -> x.comesTo(bad, 1000));
        }
        Check.sentence(6, "NoSuchElementException: no such CORD");
        for (int bad : new int[] {LEAST, -1, 2, 3, MOST}) {
            element("cord(" + bad + ", 0)", x -> x.cord(bad, 0));
            element("cord(" + bad + ", 2), the throw that is told first", x -> x.cord(bad, 2));
        }
        for (int bad : new int[] {LEAST, -1, MOST}) {
            argument("line(0, " + bad + ")", x -> x.line(0, bad));
            argument("cord(0, " + bad + ")", x -> x.cord(0, bad));
            argument("call(0, " + bad + ")", x -> x.call(0, bad));
            argument("comesTo(0, " + bad + ")", x -> x.comesTo(0, bad));
        }
        Check.sentence(5, "IllegalArgumentException: another what.");
        argument("line(5, 3)", x -> x.line(5, 3));
        Check.sentence(6, "IllegalArgumentException: another what.");
        argument("cord(1, 2)", x -> x.cord(1, 2));
        Check.sentence(7, "IllegalArgumentException: another what.");
        argument("call(5, 7)", x -> x.call(5, 7));
        Check.sentence(9, "IllegalArgumentException: n.");
        argument("comesTo(5, 1000)", x -> x.comesTo(5, 1000));
    }

    private static void deeds() {
        Check.sentence(10, "below 0: less why it can't be (nothing happens; LASTS isn't 1 to 99: 1)");
        int[][] dials = {{-1, 0, 1}, {6, 0, 1}, {0, -1, 1}, {0, 6, 1}, {LEAST, 0, 1}, {0, MOST, 1}, {3, 3, 1}, {0, 1, 0},
            {0, 1, -1}, {0, 1, 100}, {0, 1, LEAST}, {0, 1, MOST}};
        for (int[] d : dials) {
            answers("dial" + Arrays.toString(d), -1, x -> x.dial(d[0], d[1], d[2]));
        }
        Twins.Setting ten = x -> {
            Twins.rich(x);
            for (int i = 0; i < 4; i++) {
                x.dial(0, 1, 1);
            }
        };
        Twins.unchanged("dial an 11th", -2, ten, x -> x.dial(0, 1, 1));
        Twins.unchanged("dial an 11th of 0 minutes", -1, ten, x -> x.dial(0, 1, 0));
        Twins.unchanged("dial an 11th to no line", -1, ten, x -> x.dial(0, 6, 1));
        Check.sentence(11, "below NONE: -10 less why it can't be.");
        for (int c : new int[] {LEAST, -1, 6, 9, 10, MOST}) {
            answers("pull(" + c + "), no such call", -11, x -> x.pull(c));
        }
        for (int c : new int[] {0, 1, 3, 5}) {
            answers("pull(" + c + "), not on", -12, x -> x.pull(c));
        }
        Check.sentence(12, "A DOOR is shut, or opened");
        for (int l : new int[] {LEAST, -1, 6, 8, MOST}) {
            element("door(" + l + ")", x -> x.door(l));
        }
        Check.sentence(13, "n MINUTES (1 to 99) ... IllegalArgumentException: n.");
        for (int n : new int[] {LEAST, -1, 0, 100, MOST}) {
            argument("minutes(" + n + ")", x -> x.minutes(n));
        }
        Check.sentence(14, "IllegalArgumentException: n isn't 1 to 10, there aren't so many.");
        for (int n : new int[] {LEAST, -1, 0, 7, 10, 11, MOST}) {
            argument("undo(" + n + ")", x -> x.undo(n));
        }
    }

    private static void toldDeeds() {
        for (int tray : new int[] {LEAST, -1, 4, MOST}) {
            Check.sentence(15, "NoSuchElementException: no such TRAY (as below)");
            element("judge(" + tray + ", 0)", x -> x.judge(tray, 0));
            element("judge(" + tray + ", 4), the throw that is told first", x -> x.judge(tray, 4));
            Check.sentence(16, "They are done (each a DEED)");
            element("perform(" + tray + ")", x -> x.perform(tray));
        }
        Check.sentence(15, "IllegalStateException: it is MISSING (as below)");
        state("judge(3, 0)", x -> x.judge(3, 0));
        state("judge(3, 4), the throw that is told first", x -> x.judge(3, 4));
        Check.sentence(16, "They are done (each a DEED)");
        state("perform(3)", x -> x.perform(3));
        Check.sentence(15, "IllegalArgumentException: another what.");
        for (int what : new int[] {LEAST, -1, 4, MOST}) {
            argument("judge(0, " + what + ")", x -> x.judge(0, what));
        }
        Check.sentence(17, "IllegalArgumentException: how many times.");
        for (int times : new int[] {LEAST, -1, 0, 31, MOST}) {
            argument("spring(5, " + times + ")", x -> x.spring(5, times));
        }
    }

    private static void toCome() {
        for (int n : new int[] {LEAST, -1, 0, 1000, MOST}) {
            Check.sentence(18, "(1 to 999). IllegalArgumentException: n (as everywhere).");
            argument("lost(" + n + ")", x -> x.lost(n));
            Check.sentence(21, "n MINUTES more (1 to 999)");
            argument("weddings(" + n + ")", x -> x.weddings(n));
            Check.sentence(22, "the next n (1 to 999)");
            argument("busiest(" + n + ")", x -> x.busiest(n));
            Check.sentence(23, "in the next n MINUTES");
            argument("hog(" + n + ")", x -> x.hog(n));
        }
        Check.sentence(20, "IllegalArgumentException: both one.");
        for (int l = 0; l < 6; l++) {
            int line = l;
            argument("together(" + l + ", " + l + ")", x -> x.together(line, line));
        }
        for (int l : new int[] {LEAST, -1, 6, MOST}) {
            element("together(" + l + ", 0)", x -> x.together(l, 0));
            element("together(0, " + l + ")", x -> x.together(0, l));
            element("together(" + l + ", " + l + "), the throw that is told first", x -> x.together(l, l));
        }
    }

    private static void cords() {
        Check.sentence(24, "IllegalArgumentException: another what.");
        for (int what : new int[] {LEAST, -1, 2, MOST}) {
            argument("best(" + what + ")", x -> x.best(what));
        }
        Check.sentence(25, "IllegalArgumentException: how many.");
        for (int cords : new int[] {LEAST, -1, 4, MOST}) {
            argument("bestBy(" + cords + ")", x -> x.bestBy(cords));
        }
        Check.sentence(27, "IllegalArgumentException: not so.");
        long[][] bad = {{}, {0}, {0, 1, 2}, {0, 1, 2, 3, 4}, {0, 0}, {0, 6}, {6, 0}, {-1, 0}, {0, 1, 1, 2}, {0, 1, 2, 0},
            {0, 1, 2, 3, 4, 4}, {0, 1, 2, 3, 4, 0}, {0, 1, 2, 3, 4, 5, 0, 1}, {0, 1L << 32}, {(1L << 32) + 1, 0}};
        for (long[] row : bad) {
            Twins.refused("atOnce of " + Arrays.toString(row), Check.ARGUMENT, x -> richWith(x, row), x -> x.atOnce(0) ? 1 : 0);
        }
        trayThrows("atOnce", (x, tray) -> x.atOnce(tray) ? 1 : 0);
        CrossedLines eight = Check.told("lines 8;cord;cord;cord;");
        Check.tray(eight, 0, 0, 1, 2, 3, 4, 5, 6, 7);
        Check.refused("atOnce of four twos", Check.ARGUMENT, () -> eight.atOnce(0) ? 1 : 0);
    }

    private interface OfTray {
        long answer(CrossedLines x, int tray);
    }

    private static void richWith(CrossedLines x, long[] row) {
        Twins.rich(x);
        Check.tray(x, 0, row);
    }

    private static void trayThrows(String name, OfTray asking) {
        for (int tray : new int[] {LEAST, -1, 4, MOST}) {
            element(name + " of tray " + tray, x -> asking.answer(x, tray));
        }
        state(name + " of tray 3, which is missing", x -> asking.answer(x, 3));
    }

    private static void slips() {
        Check.sentence(28, "IllegalArgumentException: not 1 to 3 twos, one is none such; there is no i-th.");
        long[][] bad = {{}, {0}, {0, 1, 2}, {0, 1, 2, 3, 4}, {0, 0}, {0, 6}, {6, 0}, {-1, 0}, {0, 1, 2, 2}, {0, 1, 2, 3, 4, 4},
            {0, 1, 2, 3, 4, 5, 0, 1}, {0, 1, 2, 3, 4, 5, 0}, {0, 1L << 32}, {(1L << 32) + 1, 0}};
        for (long[] row : bad) {
            String told = " of " + Arrays.toString(row);
            Twins.refused("crossed" + told, Check.ARGUMENT, x -> richWith(x, row), x -> x.crossed(0, 0));
            Twins.refused("crossings" + told, Check.ARGUMENT, x -> richWith(x, row), x -> x.crossings(0));
        }
        for (int i : new int[] {LEAST, -1, 2, 3, MOST}) {
            argument("crossed(1, " + i + ") of two twos", x -> x.crossed(1, i));
        }
        long[][] good = {{0, 1}, {0, 1, 0, 1, 2, 3}};
        for (long[] row : good) {
            Twins.refused("crossed(0, " + row.length / 2 + ")", Check.ARGUMENT, x -> richWith(x, row),
                    x -> x.crossed(0, row.length / 2));
        }
        trayThrows("crossed", (x, tray) -> x.crossed(tray, 0));
        trayThrows("crossed, no i-th: the throw that is told first", (x, tray) -> x.crossed(tray, 3));
        Check.sentence(29, "IllegalArgumentException: as crossed(), i aside.");
        trayThrows("crossings", (x, tray) -> x.crossings(tray));
    }

    private static void pairs() {
        Check.sentence(31, "With whom a LINE is");
        for (int l : new int[] {LEAST, -1, 6, 7, 8, MOST}) {
            element("partner(" + l + ")", x -> x.partner(l));
        }
        Check.sentence(34, "IllegalArgumentException: another what (10 to 17).");
        for (int what : new int[] {LEAST, -1, 1, 9, 18, MOST}) {
            argument("happiest(" + what + ")", x -> x.happiest(what));
        }
    }

    private static void losses() {
        Check.sentence(35, "LOSS by c CORDS (0 to 8), p by q (1 to 20 each) ... IllegalArgumentException: these, another what.");
        for (int bad : new int[] {LEAST, -1, MOST}) {
            argument("loss(" + bad + ", 1, 1, 0)", x -> x.loss(bad, 1, 1, 0));
            argument("loss(1, " + bad + ", 1, 0)", x -> x.loss(1, bad, 1, 0));
            argument("loss(1, 1, " + bad + ", 0)", x -> x.loss(1, 1, bad, 0));
            argument("loss(1, 1, 1, " + bad + ")", x -> x.loss(1, 1, 1, bad));
        }
        argument("loss(9, 1, 1, 0)", x -> x.loss(9, 1, 1, 0));
        argument("loss(1, 0, 1, 0)", x -> x.loss(1, 0, 1, 0));
        argument("loss(1, 21, 1, 0)", x -> x.loss(1, 21, 1, 0));
        argument("loss(1, 1, 0, 0)", x -> x.loss(1, 1, 0, 0));
        argument("loss(1, 1, 21, 0)", x -> x.loss(1, 1, 21, 0));
        argument("loss(1, 1, 1, 2)", x -> x.loss(1, 1, 1, 2));
        Check.sentence(36, "m (1 to 999) at most ... IllegalArgumentException: these.");
        for (int bad : new int[] {LEAST, -1, 0, MOST}) {
            argument("fewest(" + bad + ", 1, 1)", x -> x.fewest(bad, 1, 1));
            argument("fewest(1, " + bad + ", 1)", x -> x.fewest(1, bad, 1));
            argument("fewest(1, 1, " + bad + ")", x -> x.fewest(1, 1, bad));
        }
        argument("fewest(21, 1, 1)", x -> x.fewest(21, 1, 1));
        argument("fewest(1, 21, 1)", x -> x.fewest(1, 21, 1));
        argument("fewest(1, 1, 1000)", x -> x.fewest(1, 1, 1000));
    }

    private static void rules() {
        Check.sentence(37, "IllegalArgumentException: not 1 to 5 threes, one is no LINE.");
        long[][] bad = {{}, {0}, {0, 1}, {0, 1, 2, 3}, {0, 1, 2, 3, 4}, {0, 1, 6}, {0, 6, 1}, {6, 0, 1}, {-1, 0, 1}, {0, -1, 1},
            {0, 1, -1}, {0, 1, 2, 3, 4, 6}, new long[16], new long[17], new long[18], {1L << 32, 1, 1}, {1, 1, (1L << 32) + 1}};
        for (long[] row : bad) {
            String told = " of " + Arrays.toString(row);
            Twins.refused("rules" + told, Check.ARGUMENT, x -> richWith(x, row), x -> x.rules(0));
            Twins.refused("rule" + told, Check.ARGUMENT, x -> richWith(x, row), x -> x.rule(0, 0));
            Twins.refused("ask" + told, Check.ARGUMENT, x -> richWith(x, row), x -> x.ask(0));
        }
        trayThrows("rules", (x, tray) -> x.rules(tray));
        Check.sentence(38, "IllegalArgumentException: as rules(), k is below 0.");
        argument("rule(2, -1)", x -> x.rule(2, -1));
        argument("rule(2, LEAST)", x -> x.rule(2, LEAST));
        trayThrows("rule", (x, tray) -> x.rule(tray, 0));
        trayThrows("rule, k below 0: the throw that is told first", (x, tray) -> x.rule(tray, -1));
        Check.sentence(39, "IllegalArgumentException: as rules().");
        trayThrows("ask", (x, tray) -> x.ask(tray));
    }

    private static long make(CrossedLines x, int tray, int sort, int many) {
        x.tray(tray, sort, many);
        return 0;
    }

    private static void trays() {
        for (int tray : new int[] {LEAST, -1, 4, MOST}) {
            Check.sentence(40, "NoSuchElementException: no such TRAY");
            element("tray(" + tray + ", 0, 1)", x -> make(x, tray, 0, 1));
            element("tray(" + tray + ", 4, 31), the throw that is told first", x -> make(x, tray, 4, 31));
            Check.sentence(41, "IllegalStateException: it is MISSING; IndexOutOfBoundsException: it has no such place.");
            element("write(" + tray + ", 9, 1), the throw that is told first", x -> x.write(tray, 9, 1));
        }
        Check.sentence(40, "IllegalArgumentException: no such sort, or not so many.");
        for (int sort : new int[] {LEAST, -1, 4, MOST}) {
            argument("tray(0, " + sort + ", 1)", x -> make(x, 0, sort, 1));
            argument("tray(3, " + sort + ", 1)", x -> make(x, 3, sort, 1));
        }
        for (int many : new int[] {LEAST, -1, 31, MOST}) {
            argument("tray(0, 3, " + many + ")", x -> make(x, 0, 3, many));
            argument("tray(3, 3, " + many + ")", x -> make(x, 3, 3, many));
        }
        Check.sentence(41, "IllegalStateException: it is MISSING; IndexOutOfBoundsException: it has no such place.");
        state("write(3, 0, 1)", x -> x.write(3, 0, 1));
        state("write(3, -1, 1), the throw that is told first", x -> x.write(3, -1, 1));
        for (int place : new int[] {LEAST, -1, 5, 29, 30, MOST}) {
            Twins.refused("write(0, " + place + ", -1)", Check.INDEX, Twins::rich, x -> x.write(0, place, -1));
        }
        Twins.refused("write to the 31st place", Check.INDEX, x -> make(x, 0, 3, 30), x -> x.write(0, 30, 1));
        Twins.refused("write to no place", Check.INDEX, x -> make(x, 0, 3, 0), x -> x.write(0, 0, 1));
        Check.sentence(42, "comes into a TRAY");
        trayThrows("copy", (x, tray) -> x.copy(tray));
    }

    private static long image(CrossedLines x, int i) {
        x.image(i);
        return 0;
    }

    private static long restore(CrossedLines x, int i) {
        x.restore(i);
        return 0;
    }

    private static void images() {
        for (int i : new int[] {LEAST, -1, 3, MOST}) {
            Check.sentence(43, "NoSuchElementException: no such one.");
            element("image(" + i + ")", x -> image(x, i));
            Check.sentence(44, "NoSuchElementException: no such one");
            element("restore(" + i + ")", x -> restore(x, i));
        }
        Check.sentence(44, "IllegalStateException: none was made.");
        state("restore(1)", x -> restore(x, 1));
    }

    /** On a new object, where nothing is yet. */
    private static void refusedAtFirst() {
        Check.sentence(1, "2 LINES, no CORDS, no CALLS; TRAYS are MISSING; an empty tape.");
        Twins.Setting nothing = x -> { };
        Twins.refused("line(2, 0)", Check.ELEMENT, nothing, x -> x.line(2, 0));
        Twins.refused("cord(0, 0)", Check.ELEMENT, nothing, x -> x.cord(0, 0));
        Twins.refused("call(0, 0)", Check.ELEMENT, nothing, x -> x.call(0, 0));
        Twins.refused("comesTo(0, 0)", Check.ELEMENT, nothing, x -> x.comesTo(0, 0));
        Twins.refused("door(2)", Check.ELEMENT, nothing, x -> x.door(2));
        Twins.refused("exchange(1)", Check.ARGUMENT, nothing, x -> x.exchange(1));
        Twins.refused("undo(1)", Check.ARGUMENT, nothing, x -> x.undo(1));
        Twins.unchanged("pull(0)", -11, nothing, x -> x.pull(0));
        Twins.unchanged("dial(0, 2, 1)", -1, nothing, x -> x.dial(0, 2, 1));
        for (int i = 0; i < 4; i++) {
            int tray = i;
            Twins.refused("write to tray " + i, Check.STATE, nothing, x -> x.write(tray, 0, 1));
            Twins.refused("judge tray " + i, Check.STATE, nothing, x -> x.judge(tray, 0));
        }
        Check.sentence(0, "IMAGES 0 to 2: all but the tape, the FAULT and TRAYS, as it was (none at first).");
        for (int i = 0; i < 3; i++) {
            int image = i;
            Twins.refused("restore(" + i + ")", Check.STATE, nothing, x -> restore(x, image));
        }
    }
}
