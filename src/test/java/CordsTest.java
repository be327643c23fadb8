/** Promises 24 to 29: what cords could do, and calls crossed. */
public final class CordsTest {
    public static void main(String[] args) {
        best();
        bestByBoard();
        bestBy();
        enough();
        atOnce();
        crossed();
        crossedByOthers();
        crossedArguments();
        Check.end();
    }

    private static void best() {
        CrossedLines x = Check.told("lines 6;cord;cord 0 1;call 2 to 3 at 0 lasts 9;call 0 to 1 at 1 lasts 1;"
                + "call 4 to 5 at 2 lasts 1;call 4 to 5 at 3 lasts 1;");
        Check.due("best(0)", x.best(0), 3);
        Check.due("best(1)", x.best(1), 14);
        CrossedLines like = Check.told("lines 4;cord;call 0 to 1 at 0 lasts 2;call 2 to 3 at 1 lasts 2;call 0 to 1 at 2 lasts 2;");
        Check.due("the least set", like.best(1), 5);
        CrossedLines least = Check.told("lines 4;cord;call 0 to 1 at 0 lasts 2;call 2 to 3 at 1 lasts 2;");
        Check.due("of like ones the least", least.best(1), 1);
        CrossedLines meant = Check.told("lines 3;cord 0 1;slips:1;call 0 to 1 at 0 lasts 2;");
        Check.due("as meant", meant.best(0), 1);
        CrossedLines byAny = Check.told("lines 4;cord;cord 0 1;call 0 to 1 at 0 lasts 9;call 2 to 3 at 1 lasts 1;");
        Check.due("by any cord, not the first", byAny.best(1), 3);
        CrossedLines oneLine = Check.told("lines 4;cord;cord;call 0 to 1 at 0 lasts 9;call 1 to 2 at 1 lasts 1;");
        Check.due("one line is in one call", oneLine.best(0), 1);
        Check.refused("best(2)", Check.ARGUMENT, () -> x.best(2));
        Check.refused("best(-1)", Check.ARGUMENT, () -> x.best(-1));
        StringBuilder full = new StringBuilder("lines 8;cord;cord;cord;");
        for (int i = 0; i < 10; i++) {
            full.append("call ").append(i % 8).append(" to ").append((i + 4) % 8).append(" at ").append(i)
                    .append(" lasts 3;");
        }
        Check.due("ten", Check.told(full.toString()).best(1), 1023);
    }

    private static void bestByBoard() {
        CrossedLines x = Check.told("lines 4;cord;cord 0 1;call 2 to 3 at 0 lasts 5;call 0 to 1 at 4 lasts 1;"
                + "call 2 to 0 at 4 lasts 1;call 2 to 1 at 5 lasts 1;");
        x.minutes(1);
        Check.due("a call that is on till it ends", x.best(1), 10);
        x.door(1);
        Check.due("a door", x.best(0), 0);
        x.pull(0);
        Check.due("pulled", x.best(1), 4);
        CrossedLines slipped = Check.told("lines 4;cord;slips:1;call 2 to 0 at 0 lasts 5;call 0 to 3 at 4 lasts 1;");
        slipped.minutes(1);
        Check.due("the cord is taken", slipped.best(0), 0);
        Check.due("the line that it came to isn't 0", slipped.bestBy(1), 1);
    }

    private static void bestBy() {
        CrossedLines x = Check.told("lines 8;cord 0;call 0 to 1 at 0 lasts 5;call 2 to 3 at 1 lasts 5;call 4 to 5 at 2 lasts 5;"
                + "call 6 to 7 at 3 lasts 5;");
        Check.due("best(0)", x.best(0), 0);
        for (int k = 0; k <= 3; k++) {
            Check.due("bestBy(" + k + ")", x.bestBy(k), k);
        }
        Check.refused("bestBy(-1)", Check.ARGUMENT, () -> x.bestBy(-1));
        Check.refused("bestBy(4)", Check.ARGUMENT, () -> x.bestBy(4));
        CrossedLines y = Check.told("lines 4;cord;call 0 to 1 at 0 lasts 5;call 2 to 3 at 1 lasts 5;call 0 to 2 at 2 lasts 1;");
        y.minutes(1);
        Check.due("calls that are on stay, by none of these", y.bestBy(1), 1);
        Check.due("with no cord", y.bestBy(0), 0);
    }

    private static void enough() {
        Check.due("none", new CrossedLines().enough(), -1);
        Check.due("one", Check.told("lines 8;cord 0 1;cord 2;cord;").enough(), 1);
        Check.due("three", Check.told("lines 3;cord 0 1;cord 1 2;cord 0 2;").enough(), 3);
        Check.due("two don't do", Check.told("lines 3;cord 0 1;cord 1 2;").enough(), -1);
        Check.due("two of three never", Check.told("lines 4;cord 0 1 2;cord 1 2 3;cord 0 3;").enough(), 3);
        Check.due("one of one", Check.told("lines 2;cord 0 1;").enough(), 1);
    }

    private static void atOnce() {
        CrossedLines x = Check.told("lines 6;cord;cord 0 1 2 3;cord 0 1;");
        Check.tray(x, 0, 0, 1, 2, 3, 4, 5);
        Check.due("three", x.atOnce(0) ? 1 : 0, 1);
        Check.tray(x, 0, 0, 2, 1, 3, 4, 5);
        Check.due("three, not so", x.atOnce(0) ? 1 : 0, 0);
        Check.tray(x, 0, 5, 4);
        Check.due("one", x.atOnce(0) ? 1 : 0, 1);
        x.door(4);
        x.dial(0, 5, 9);
        x.minutes(1);
        Check.due("doors and calls aside", x.atOnce(0) ? 1 : 0, 1);
        long[][] bad = {{}, {0}, {0, 1, 2}, {0, 0}, {0, 6}, {-1, 0}, {0, 1, 1, 2}, {0, 1, 2, 3, 4, 0}, {0, 1L << 32},
            {0, 1, 2, 3, 4, 5, 0, 1}};
        for (long[] row : bad) {
            Check.tray(x, 0, row);
            Check.refused("atOnce of " + java.util.Arrays.toString(row), Check.ARGUMENT, () -> x.atOnce(0) ? 1 : 0);
        }
        Check.refused("atOnce(4)", Check.ELEMENT, () -> x.atOnce(4) ? 1 : 0);
        Check.refused("atOnce(1)", Check.STATE, () -> x.atOnce(1) ? 1 : 0);
    }

    private static void crossed() {
        CrossedLines x = Check.told("lines 4;cord;cord;call 0 to 1 at 0 lasts 2;call 2 to 3 at 1 lasts 2;call 1 to 0 at 5 lasts 1;");
        Check.tray(x, 0, 3, 0);
        Check.due("one call is from 0, none from 3", x.crossings(0), 1);
        Check.due("crossed(0, 0)", x.crossed(0, 0), 0);
        Check.tray(x, 0, 0, 1);
        Check.due("from either", x.crossings(0), 2);
        Check.tray(x, 0, 1, 0, 1, 2);
        Check.due("twos may share", x.crossings(0), 1);
        Check.due("the first: 0", x.crossed(0, 0), 0);
        Check.due("the first: 1", x.crossed(0, 1), 2);
        Check.tray(x, 0, 0, 1, 0, 1);
        Check.due("the same two twice", x.crossings(0), 2);
        Check.due("a call of its own", x.crossed(0, 1), 2);
        Check.tray(x, 0, 0, 3, 2, 0);
        Check.due("no way: both in one minute", x.crossings(0), 0);
        Check.due("no way: crossed", x.crossed(0, 1), -1);
        x.minutes(1);
        Check.tray(x, 0, 0, 3);
        Check.due("one that is on is none to come", x.crossings(0), 0);
        Check.due("nothing is done", x.call(1, 1), 3);
    }

    private static void crossedByOthers() {
        CrossedLines x = Check.told("lines 4;cord;slips:1;call 0 to 1 at 0 lasts 5;call 1 to 3 at 1 lasts 1;call 1 to 0 at 7 lasts 1;");
        Check.tray(x, 0, 1, 3);
        Check.due("another one by the law has the cord", x.crossed(0, 0), 2);
        Check.due("one way", x.crossings(0), 1);
        CrossedLines y = Check.told("lines 4;cord;slips:3;call 0 to 1 at 0 lasts 5;call 1 to 3 at 1 lasts 1;");
        Check.tray(y, 0, 1, 3);
        Check.due("another one is lost by the law", y.crossed(0, 0), 1);
        CrossedLines z = Check.told("lines 2;cord;call 0 to 1 at 999 lasts 5;");
        Check.tray(z, 0, 1, 0);
        Check.due("far ahead", z.crossed(0, 0), 0);
        z.door(1);
        Check.due("a door", z.crossed(0, 0), -1);
    }

    private static void crossedArguments() {
        CrossedLines x = Check.told("lines 4;cord;call 0 to 1 at 0 lasts 2;");
        long[][] bad = {{}, {0}, {0, 1, 2}, {1, 1}, {0, 4}, {-1, 2}, {0, 1, 2, 2}, {0, 1, 0, 1, 0, 1, 0, 1}};
        for (long[] row : bad) {
            Check.tray(x, 0, row);
            Check.refused("crossed by " + java.util.Arrays.toString(row), Check.ARGUMENT, () -> x.crossed(0, 0));
            Check.refused("crossings by " + java.util.Arrays.toString(row), Check.ARGUMENT, () -> x.crossings(0));
        }
        Check.tray(x, 0, 0, 1, 2, 3);
        Check.refused("crossed(0, 2)", Check.ARGUMENT, () -> x.crossed(0, 2));
        Check.refused("crossed(0, -1)", Check.ARGUMENT, () -> x.crossed(0, -1));
        Check.refused("crossed(4, 9)", Check.ELEMENT, () -> x.crossed(4, 9));
        Check.refused("crossed(1, 9)", Check.STATE, () -> x.crossed(1, 9));
        Check.refused("crossings(-1)", Check.ELEMENT, () -> x.crossings(-1));
        Check.refused("crossings(1)", Check.STATE, () -> x.crossings(1));
    }
}
