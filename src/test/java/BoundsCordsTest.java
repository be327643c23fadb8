/** Boundary cases of cords and crossings, promises 24 to 29: each sentence that names one has a test of its own. */
public final class BoundsCordsTest {
    public static void main(String[] args) {
        nothingIsDone();
        bestNone();
        bestAll();
        bestMostThatCanBe();
        bestMeant();
        bestToCome();
        bestOthersNever();
        bestByAnyCord();
        bestReaching();
        bestDoors();
        bestTillTheyEnd();
        bestLeastSet();
        bestLinesOnce();
        bestByHowMany();
        bestByNoneElse();
        bestByCallsThatAreOn();
        enoughFewest();
        enoughNone();
        enoughOfTwoLines();
        atOnceTwos();
        atOnceOneOfItsOwn();
        atOnceAside();
        atOnceArguments();
        crossedTwos();
        crossedOwnCall();
        crossedFromOne();
        crossedInPlaceOfTheLaw();
        crossedOnSomeTime();
        crossedOthersByTheLaw();
        crossedFar();
        crossedFirst();
        crossedIth();
        crossedNoWay();
        crossingsMany();
        Check.quoted(24, 29);
        Check.end();
    }

    private static void nothingIsDone() {
        Check.sentence(0, "A call that throws changes nothing.");
        Twins.unchanged("best(1)", 16, Twins::rich, x -> x.best(1));
        Twins.unchanged("bestBy(3)", 1, Twins::rich, x -> x.bestBy(3));
        Twins.unchanged("enough()", 1, Twins::rich, x -> x.enough());
        Twins.unchanged("atOnce(1)", 1, Twins::rich, x -> x.atOnce(1) ? 1 : 0);
        Twins.unchanged("crossed(1, 1)", 4, Twins::rich, x -> x.crossed(1, 1));
        Twins.unchanged("crossings(1)", 1, Twins::rich, x -> x.crossings(1));
    }

    private static void best(String what, CrossedLines x, int many, int bits) {
        Check.due(what + ": best(0)", x.best(0), many);
        Check.due(what + ": best(1)", x.best(1), bits);
    }

    // ---- promise 24

    private static void bestNone() {
        Check.sentence(24, "BEST, what 0: how many, 1: which, as bits.");
        best("no calls", new CrossedLines(), 0, 0);
        best("no cords", Check.told("lines 2;call 0 to 1 at 0 lasts 1;"), 0, 0);
        best("one", Check.told("lines 2;cord;call 0 to 1 at 0 lasts 1;"), 1, 1);
        CrossedLines x = new CrossedLines();
        Check.refused("best(2)", Check.ARGUMENT, () -> x.best(2));
        Check.refused("best(-1)", Check.ARGUMENT, () -> x.best(-1));
    }

    private static void bestAll() {
        Check.sentence(24, "1: which, as bits");
        StringBuilder text = new StringBuilder("lines 2;cord;");
        for (int c = 0; c < 10; c++) {
            text.append("call 0 to 1 at ").append(9 - c).append(" lasts 1;");
        }
        best("all ten", Check.told(text.toString()), 10, 1023);
        best("all but the first", Check.told(text + "minute 1;"), 9, 511);
        best("the last alone", Check.told(text + "minute 9;"), 1, 1);
        best("none", Check.told(text + "minute 10;"), 0, 0);
    }

    private static void bestMostThatCanBe() {
        Check.sentence(0, "BEST: of CALLS to come whose MINUTE isn't past, the most that can be ON");
        best("a long one and three short ones", Check.told("lines 4;cord;call 0 to 1 at 0 lasts 9;call 2 to 3 at 1 lasts 1;"
                + "call 2 to 3 at 2 lasts 1;call 2 to 3 at 8 lasts 1;"), 3, 14);
        best("end to begin", Check.told("lines 4;cord;call 0 to 1 at 0 lasts 2;call 2 to 3 at 2 lasts 2;"
                + "call 0 to 1 at 4 lasts 2;"), 3, 7);
        best("one minute too long", Check.told("lines 4;cord;call 0 to 1 at 0 lasts 3;call 2 to 3 at 2 lasts 2;"
                + "call 0 to 1 at 4 lasts 2;"), 2, 5);
    }

    private static void bestMeant() {
        Check.sentence(0, "MEANT calls: as if there were no SLIPS.");
        best("a slip to itself", Check.told("lines 3;cord;slips:2;call 0 to 1 at 0 lasts 1;"), 1, 1);
        best("a slip to where no cord is", Check.told("lines 3;cord 0 1;slips:1;call 0 to 1 at 0 lasts 1;"), 1, 1);
        best("no cord to where it is meant", Check.told("lines 3;cord 0 2;slips:1;call 0 to 1 at 0 lasts 1;"), 0, 0);
    }

    private static void bestToCome() {
        Check.sentence(0, "of CALLS to come whose MINUTE isn't past");
        CrossedLines x = Check.told("lines 4;cord;call 0 to 1 at 2 lasts 1;call 0 to 1 at 3 lasts 1;call 0 to 1 at 4 lasts 1;"
                + "minute 3;");
        best("not one that is lost", x, 2, 6);
        x.minutes(1);
        best("not one that is on", x, 1, 4);
        x.pull(1);
        best("not one that was pulled", x, 1, 4);
        x.dial(2, 3, 1);
        best("one that is dialled is no more by one cord", x, 1, 4);
        x.minutes(1);
        best("none is left", x, 0, 0);
    }

    private static void bestOthersNever() {
        Check.sentence(0, "others never beginning");
        best("an earlier one that would have the cord", Check.told("lines 4;cord;call 0 to 1 at 0 lasts 9;"
                + "call 2 to 3 at 1 lasts 1;call 2 to 3 at 3 lasts 1;"), 2, 6);
    }

    private static void bestByAnyCord() {
        Check.sentence(0, "each by any CORD, free and reaching both");
        best("the first by the second cord", Check.told("lines 4;cord;cord 0 1;call 0 to 1 at 0 lasts 9;"
                + "call 2 to 3 at 1 lasts 1;"), 2, 3);
        best("two of three change their cords", Check.told("lines 6;cord;cord 0 1 2 3;cord 0 1;call 0 to 1 at 0 lasts 9;"
                + "call 2 to 3 at 1 lasts 9;call 4 to 5 at 2 lasts 9;"), 3, 7);
        best("three at once by three cords", Check.told("lines 8;cord;cord;cord;call 0 to 1 at 0 lasts 9;"
                + "call 2 to 3 at 0 lasts 9;call 4 to 5 at 0 lasts 9;call 6 to 7 at 0 lasts 9;"), 3, 7);
    }

    private static void bestReaching() {
        Check.sentence(0, "free and reaching both");
        String calls = "call 0 to 1 at 0 lasts 1;call 1 to 2 at 1 lasts 1;call 2 to 0 at 2 lasts 1;";
        best("one cord to 0 and 1", Check.told("lines 3;cord 0 1;" + calls), 1, 1);
        best("and one to 2 alone", Check.told("lines 3;cord 0 1;cord 2;" + calls), 1, 1);
        best("and one to 1 and 2", Check.told("lines 3;cord 0 1;cord 1 2;" + calls), 2, 3);
        best("and one to 2 and 0", Check.told("lines 3;cord 0 1;cord 1 2;cord 2 0;" + calls), 3, 7);
    }

    private static void bestDoors() {
        Check.sentence(0, "as the BOARD is (DOORS");
        CrossedLines x = Check.told("lines 4;cord;call 0 to 1 at 0 lasts 1;call 2 to 3 at 500 lasts 1;call 1 to 2 at 999 lasts 1;");
        int[] bits = {6, 2, 1, 5};
        for (int l = 0; l < 4; l++) {
            x.door(l);
            best("door " + l, x, Integer.bitCount(bits[l]), bits[l]);
            x.door(l);
        }
        best("all open", x, 3, 7);
    }

    private static void bestTillTheyEnd() {
        Check.sentence(0, "CALLS that are ON till they end)");
        CrossedLines cord = Check.told("lines 4;cord;call 0 to 1 at 0 lasts 5;call 2 to 3 at 4 lasts 1;call 2 to 3 at 5 lasts 1;");
        cord.minutes(1);
        best("the cord is free where it ends", cord, 1, 4);
        CrossedLines line = Check.told("lines 4;cord;cord;call 0 to 1 at 0 lasts 5;call 1 to 3 at 4 lasts 1;call 1 to 3 at 5 lasts 1;");
        line.minutes(1);
        best("the line is free where it ends", line, 1, 4);
        CrossedLines slipped = Check.told("lines 4;cord;cord;slips:1;call 0 to 1 at 0 lasts 5;call 1 to 3 at 4 lasts 1;"
                + "call 2 to 3 at 4 lasts 1;");
        slipped.minutes(1);
        best("the line that it came to isn't free", slipped, 1, 2);
        slipped.pull(0);
        best("pulled", slipped, 1, 2);
        CrossedLines last = Check.told("lines 4;cord;call 0 to 1 at 0 lasts 1;");
        last.minutes(1);
        last.dial(0, 1, 1);
        best("one that ends in this very minute", last, 1, 2);
    }

    private static void bestLeastSet() {
        Check.sentence(0, "of like ones the least set as bits");
        best("0 or 1", Check.told("lines 4;cord;call 0 to 1 at 1 lasts 2;call 2 to 3 at 0 lasts 2;"), 1, 1);
        best("0 and 1, 0 and 2, or 1 and 2", Check.told("lines 6;cord;cord;call 0 to 1 at 0 lasts 2;call 2 to 3 at 0 lasts 2;"
                + "call 4 to 5 at 0 lasts 2;"), 2, 3);
        best("0 and 3, or 1 and 2: the number, not the first call", Check.told("lines 8;cord;call 0 to 1 at 0 lasts 3;"
                + "call 2 to 3 at 0 lasts 2;call 4 to 5 at 2 lasts 3;call 6 to 7 at 3 lasts 2;"), 2, 6);
    }

    private static void bestLinesOnce() {
        Check.sentence(0, "the most that can be ON");
        best("one line in two calls at once", Check.told("lines 4;cord;cord;call 0 to 1 at 0 lasts 3;call 2 to 1 at 2 lasts 1;"),
                1, 1);
        best("from one line to two at once", Check.told("lines 4;cord;cord;call 2 to 1 at 0 lasts 3;call 2 to 0 at 2 lasts 1;"), 1, 1);
        best("from one line to two, one behind the other", Check.told("lines 4;cord;cord;call 2 to 1 at 0 lasts 2;"
                + "call 2 to 0 at 2 lasts 1;"), 2, 3);
        best("there and back at once", Check.told("lines 4;cord;cord;call 2 to 1 at 0 lasts 3;call 1 to 2 at 2 lasts 1;"), 1, 1);
        best("one behind the other", Check.told("lines 4;cord;cord;call 0 to 1 at 0 lasts 2;call 2 to 1 at 2 lasts 1;"), 2, 3);
        best("from, to and from", Check.told("lines 4;cord;cord;cord;call 0 to 1 at 0 lasts 3;call 1 to 2 at 1 lasts 1;"
                + "call 3 to 0 at 2 lasts 1;"), 2, 6);
    }

    // ---- promise 25

    private static void bestByHowMany() {
        Check.sentence(25, "just so many CORDS (0 to 3)");
        String text = "lines 8;cord;call 0 to 1 at 0 lasts 9;call 2 to 3 at 1 lasts 9;call 4 to 5 at 2 lasts 9;"
                + "call 6 to 7 at 3 lasts 9;";
        CrossedLines x = Check.told(text);
        for (int cords = 0; cords <= 3; cords++) {
            Check.due("bestBy(" + cords + ")", x.bestBy(cords), cords);
        }
        Check.refused("bestBy(-1)", Check.ARGUMENT, () -> x.bestBy(-1));
        Check.refused("bestBy(4)", Check.ARGUMENT, () -> x.bestBy(4));
        Check.due("no calls", new CrossedLines().bestBy(3), 0);
    }

    private static void bestByNoneElse() {
        Check.sentence(25, "that reach all were free, and none else, were there");
        String calls = "call 0 to 1 at 0 lasts 9;call 2 to 3 at 0 lasts 9;";
        Check.due("no cords told", Check.told("lines 4;" + calls).bestBy(2), 2);
        Check.due("cords to one line told", Check.told("lines 4;cord 0;cord 1;" + calls).bestBy(1), 1);
        Check.due("three cords told", Check.told("lines 4;cord;cord;cord;" + calls).bestBy(1), 1);
        Check.due("three cords told, by none", Check.told("lines 4;cord;cord;cord;" + calls).bestBy(0), 0);
    }

    private static void bestByCallsThatAreOn() {
        Check.sentence(25, "(CALLS that are ON stay, by none of these)");
        CrossedLines x = Check.told("lines 6;cord;call 0 to 1 at 0 lasts 5;call 2 to 3 at 1 lasts 1;call 1 to 4 at 4 lasts 1;"
                + "call 1 to 4 at 5 lasts 1;");
        x.minutes(1);
        Check.due("its cord is none of these, its lines are busy", x.bestBy(1), 2);
        Check.due("by none", x.bestBy(0), 0);
        x.door(4);
        Check.due("a door", x.bestBy(3), 1);
        x.door(4);
        x.pull(0);
        Check.due("pulled", x.bestBy(1), 3);
    }

    // ---- promise 26

    private static void enoughFewest() {
        Check.sentence(26, "The fewest CORDS (of those told) so that any two LINES are both reached by one of them");
        Check.due("one of three", Check.told("lines 8;cord 0 1;cord;cord 2 3;").enough(), 1);
        Check.due("all told by number", Check.told("lines 8;cord 0 1 2 3 4 5 6 7;").enough(), 1);
        Check.due("three of three", Check.told("lines 3;cord 0 1;cord 1 2;cord 2 0;").enough(), 3);
        Check.due("three of three by more lines", Check.told("lines 6;cord 0 1 2 3;cord 2 3 4 5;cord 4 5 0 1;").enough(), 3);
        CrossedLines x = Check.told("lines 4;cord;");
        x.door(0);
        x.dial(1, 2, 9);
        x.minutes(1);
        Check.due("whatever is shut or on", x.enough(), 1);
    }

    private static void enoughNone() {
        Check.sentence(26, "NONE: not even by all.");
        Check.due("no cords", Check.told("lines 8;").enough(), -1);
        Check.due("all but one line", Check.told("lines 8;cord 0 1 2 3 4 5 6;").enough(), -1);
        Check.due("all but two lines that are never both", Check.told("lines 8;cord 0 1 2 3 4 5 6;cord 1 2 3 4 5 6 7;").enough(),
                -1);
        Check.due("two of three", Check.told("lines 3;cord 0 1;cord 1 2;").enough(), -1);
        Check.due("three to one line each", Check.told("lines 2;cord 0;cord 1;cord 0;").enough(), -1);
    }

    private static void enoughOfTwoLines() {
        Check.sentence(26, "any two LINES");
        Check.due("no cords", new CrossedLines().enough(), -1);
        Check.due("one", Check.told("lines 2;cord 0;cord 1 0;").enough(), 1);
    }

    // ---- promise 27

    private static boolean atOnce(CrossedLines x, long... twos) {
        Check.tray(x, 0, twos);
        return x.atOnce(0);
    }

    private static void atOnceTwos() {
        Check.sentence(27, "(1 to 3 twos, all these LINES unlike)");
        CrossedLines x = Check.told("lines 8;cord;cord;cord;");
        Check.due("one", atOnce(x, 7, 0), true);
        Check.due("two", atOnce(x, 7, 0, 1, 6), true);
        Check.due("three", atOnce(x, 7, 0, 1, 6, 2, 5), true);
        CrossedLines two = Check.told("lines 8;cord;cord;");
        Check.due("two by two", atOnce(two, 7, 0, 1, 6), true);
        Check.due("three by two", atOnce(two, 7, 0, 1, 6, 2, 5), false);
        CrossedLines none = Check.told("lines 8;");
        Check.due("one by none", atOnce(none, 7, 0), false);
        for (int sort = 0; sort < 4; sort++) {
            x.tray(0, sort, 2);
            x.write(0, 0, 7);
            Check.due("in numbers of sort " + sort, x.atOnce(0), true);
        }
    }

    private static void atOnceOneOfItsOwn() {
        Check.sentence(27, "each by one of its own");
        CrossedLines x = Check.told("lines 6;cord 0 1 2 3;cord 0 1;cord 4 5 2 3;");
        Check.due("the first leaves the first cord", atOnce(x, 0, 1, 2, 3, 4, 5), true);
        Check.due("in another order", atOnce(x, 4, 5, 2, 3, 0, 1), true);
        Check.due("two of the same cord", atOnce(x, 0, 2, 1, 3), false);
        Check.due("two that no cord reaches", atOnce(x, 0, 4), false);
        Check.due("one of two that no cord reaches", atOnce(x, 0, 1, 2, 5), true);
        Check.due("one of three that no cord reaches", atOnce(x, 0, 1, 2, 3, 5, 4), true);
        Check.due("the last that no cord reaches", atOnce(x, 0, 1, 2, 3), true);
        Check.due("a cord that reaches one of them alone", atOnce(Check.told("lines 3;cord 0;cord 1;"), 0, 1), false);
    }

    private static void atOnceAside() {
        Check.sentence(27, "(DOORS, CALLS that are ON aside)");
        CrossedLines x = Check.told("lines 4;cord;call 0 to 1 at 0 lasts 9;");
        x.minutes(1);
        Check.due("on", atOnce(x, 1, 0), true);
        Check.due("another two", atOnce(x, 1, 2), true);
        x.door(1);
        x.door(2);
        Check.due("doors", atOnce(x, 1, 2), true);
    }

    private static void atOnceArguments() {
        Check.sentence(27, "IllegalArgumentException: not so.");
        CrossedLines x = Check.told("lines 8;cord;cord;cord;");
        long[][] bad = {{}, {1}, {1, 2, 3}, {1, 2, 3, 4, 5}, {0, 1, 2, 3, 4, 5, 6}, {0, 1, 2, 3, 4, 5, 6, 7}, {1, 1}, {8, 1}, {1, 8},
            {-1, 1}, {1, -1}, {1, 2, 2, 3}, {1, 2, 3, 1}, {1, 2, 3, 4, 5, 1}, {1, 2, 3, 4, 4, 5}, {1, 1L << 32},
            {1, 2, 3, 4, 5, (1L << 32) + 6}};
        for (long[] row : bad) {
            Check.refused("atOnce of " + java.util.Arrays.toString(row), Check.ARGUMENT, () -> atOnce(x, row) ? 1 : 0);
        }
    }

    // ---- promises 28 and 29

    private static void ways(String what, CrossedLines x, int many, int[] first, long... twos) {
        Check.tray(x, 0, twos);
        Check.due(what + ": crossings(0)", x.crossings(0), many);
        for (int i = 0; i < twos.length / 2; i++) {
            Check.due(what + ": crossed(0, " + i + ")", x.crossed(0, i), many == 0 ? -1 : first[i]);
        }
    }

    private static final String THREE = "lines 6;cord;cord;cord;call 0 to 1 at 0 lasts 9;call 2 to 3 at 1 lasts 9;"
            + "call 4 to 5 at 2 lasts 9;";

    private static void crossedTwos() {
        Check.sentence(0, "CROSSED for twos of LINES in a TRAY (1 to 3 twos, each of unlike ones)");
        ways("one", Check.told(THREE), 1, new int[] {0}, 0, 1);
        ways("two", Check.told(THREE), 1, new int[] {2, 0}, 5, 4, 0, 1);
        ways("three", Check.told(THREE), 1, new int[] {1, 2, 0}, 2, 3, 5, 4, 0, 1);
        CrossedLines x = Check.told(THREE);
        long[][] bad = {{}, {0}, {0, 1, 2}, {0, 1, 2, 3, 4}, {0, 1, 2, 3, 4, 5, 0}, {0, 1, 2, 3, 4, 5, 0, 1}, {0, 0}, {0, 1, 2, 2},
            {0, 1, 2, 3, 4, 4}, {0, 6}, {-1, 0}};
        for (long[] row : bad) {
            Check.tray(x, 0, row);
            String told = java.util.Arrays.toString(row);
            Check.refused("crossings of " + told, Check.ARGUMENT, () -> x.crossings(0));
            Check.refused("crossed of " + told, Check.ARGUMENT, () -> x.crossed(0, 0));
        }
    }

    private static void crossedOwnCall() {
        Check.sentence(0, "each two has a CALL to come of its own");
        CrossedLines x = Check.told("lines 4;cord;call 0 to 1 at 0 lasts 1;call 1 to 0 at 3 lasts 1;");
        ways("one two", x, 2, new int[] {0}, 0, 1);
        ways("the same twice", x, 2, new int[] {0, 1}, 0, 1, 1, 0);
        ways("the same three times", x, 0, null, 0, 1, 1, 0, 0, 1);
        x.dial(0, 3, 1);
        x.minutes(1);
        Check.due("0 is on, 2 is lost", x.call(0, 4) * 10 + x.call(2, 4), 13);
        ways("one that is on, one that is lost, one to come", x, 1, new int[] {1}, 0, 1);
        x.minutes(3);
        ways("none to come", x, 0, null, 0, 1);
        ways("no calls", Check.told("lines 2;cord;"), 0, null, 0, 1);
    }

    private static void crossedFromOne() {
        Check.sentence(0, "that is from one of them and comes to the other one");
        CrossedLines x = Check.told("lines 4;cord;call 2 to 0 at 0 lasts 1;call 3 to 1 at 5 lasts 1;");
        ways("from 2 or 3", x, 2, new int[] {0}, 2, 3);
        ways("to 0 and to 1 isn't from one of them", x, 0, null, 0, 1);
        ways("from 2, to 0 as meant", x, 1, new int[] {0}, 0, 2);
        ways("from 3, to another one", x, 1, new int[] {1}, 0, 3);
    }

    private static void crossedInPlaceOfTheLaw() {
        Check.sentence(0, "(in place of the law)");
        CrossedLines x = Check.told("lines 4;cord 0 1;slips:1;call 0 to 1 at 0 lasts 1;");
        ways("to 1, though the law takes it to 2", x, 1, new int[] {0}, 0, 1);
        ways("to 2, as by the law, where no cord is", x, 0, null, 0, 2);
        CrossedLines itself = Check.told("lines 4;cord;slips:3;call 0 to 1 at 0 lasts 1;");
        ways("though the law takes it to itself", itself, 1, new int[] {0}, 3, 0);
    }

    private static void crossedOnSomeTime() {
        Check.sentence(0, "so that all these CALLS are ON some time in MINUTES to come");
        CrossedLines x = Check.told("lines 4;cord;call 0 to 1 at 0 lasts 2;call 2 to 3 at 2 lasts 1;call 3 to 2 at 1 lasts 1;");
        ways("one behind the other, not at once", x, 1, new int[] {0, 1}, 0, 1, 2, 3);
        x.door(3);
        ways("a door", x, 0, null, 0, 1, 2, 3);
        ways("not that of 0", x, 1, new int[] {0}, 0, 1);
        CrossedLines on = Check.told("lines 4;cord;call 0 to 1 at 0 lasts 3;call 2 to 3 at 2 lasts 1;call 2 to 3 at 3 lasts 1;");
        on.minutes(1);
        ways("one that is on has the cord till it ends", on, 1, new int[] {2}, 2, 3);
    }

    private static void crossedOthersByTheLaw() {
        Check.sentence(0, "comes to the other one (in place of the law)");
        String calls = "call 0 to 1 at 0 lasts 5;call 2 to 3 at 1 lasts 1;";
        ways("another one has the cord", Check.told("lines 4;cord;" + calls), 0, null, 2, 3);
        ways("another one is lost by the law", Check.told("lines 4;cord;slips:3;" + calls), 1, new int[] {1}, 2, 3);
        ways("another one by its minute's law", Check.told("lines 4;cord;slips:3*minute;minute 0;" + calls), 0, null, 2, 3);
        String late = "call 0 to 1 at 6 lasts 5;call 2 to 3 at 7 lasts 1;";
        ways("another one comes to itself by the law of its minute", Check.told("lines 4;cord;slips:1-minute+8;" + late), 1,
                new int[] {1}, 2, 3);
        ways("another one comes to itself by the law of another minute", Check.told("lines 4;cord;slips:minute+3;" + late), 0,
                null, 2, 3);
        ways("a picked one leaves the cord to none", Check.told("lines 4;cord;slips:3;" + calls), 0, null, 2, 3, 0, 1);
    }

    private static void crossedFar() {
        Check.sentence(0, "in MINUTES to come (1,200)");
        CrossedLines x = Check.told("lines 2;cord;call 0 to 1 at 999 lasts 99;");
        ways("in 999", x, 1, new int[] {0}, 0, 1);
        x.minutes(99);
        ways("in 900", x, 1, new int[] {0}, 0, 1);
    }

    private static void crossedFirst() {
        Check.sentence(0, "of like ways the first by CALLS, two by two");
        CrossedLines x = Check.told("lines 4;cord;cord;call 1 to 0 at 6 lasts 1;call 0 to 1 at 5 lasts 1;call 1 to 2 at 4 lasts 1;"
                + "call 3 to 1 at 3 lasts 1;");
        ways("the first two has the least", x, 4, new int[] {0, 2}, 0, 1, 1, 2);
        ways("told the other way", x, 4, new int[] {0, 1}, 1, 2, 1, 0);
        ways("three", x, 10, new int[] {0, 1, 2}, 3, 1, 0, 1, 0, 1);
        ways("three, that of 3 alone first", x, 2, new int[] {3, 1, 0}, 3, 2, 0, 3, 0, 1);
    }

    private static void crossedIth() {
        Check.sentence(28, "the CALL of the i-th two (0: the first)");
        CrossedLines x = Check.told(THREE);
        for (int twos = 1; twos <= 3; twos++) {
            Check.tray(x, 0, java.util.Arrays.copyOf(new long[] {5, 4, 3, 2, 1, 0}, 2 * twos));
            for (int i = 0; i < twos; i++) {
                Check.due("crossed(0, " + i + ") of " + twos, x.crossed(0, i), 2 - i);
            }
            for (int i : new int[] {Integer.MIN_VALUE, -1, twos, Integer.MAX_VALUE}) {
                Check.refused("crossed(0, " + i + ") of " + twos, Check.ARGUMENT, () -> x.crossed(0, i));
            }
        }
    }

    private static void crossedNoWay() {
        Check.sentence(28, "NONE: there is no way.");
        CrossedLines x = Check.told("lines 4;cord;call 0 to 1 at 0 lasts 2;call 2 to 3 at 1 lasts 1;");
        ways("one can, both can't", x, 0, null, 0, 1, 2, 3);
        Check.refused("there is no i-th of no way", Check.ARGUMENT, () -> x.crossed(0, 2));
    }

    private static void crossingsMany() {
        Check.sentence(29, "How many ways there are to be CROSSED.");
        StringBuilder text = new StringBuilder("lines 2;cord;");
        for (int c = 0; c < 10; c++) {
            text.append("call 0 to 1 at ").append(c).append(" lasts 1;");
        }
        CrossedLines x = Check.told(text.toString());
        ways("one of ten", x, 10, new int[] {0}, 0, 1);
        ways("two of ten", x, 90, new int[] {0, 1}, 0, 1, 0, 1);
        ways("three of ten", x, 720, new int[] {0, 1, 2}, 0, 1, 0, 1, 1, 0);
        x.minutes(1);
        ways("three of nine", x, 504, new int[] {1, 2, 3}, 0, 1, 0, 1, 1, 0);
    }
}
