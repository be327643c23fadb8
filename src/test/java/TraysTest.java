/** Promises 40 to 45: trays, images, counts. */
public final class TraysTest {
    public static void main(String[] args) {
        trays();
        write();
        copy();
        images();
        imagesKeepDeeds();
        imagesLeaveOut();
        count();
        Check.end();
    }

    private static long make(CrossedLines x, int tray, int sort, int many) {
        x.tray(tray, sort, many);
        return 0;
    }

    private static void trays() {
        CrossedLines x = new CrossedLines();
        Check.refused("tray(4, 9, 99)", Check.ELEMENT, () -> make(x, 4, 9, 99));
        Check.refused("tray(-1, 0, 0)", Check.ELEMENT, () -> make(x, -1, 0, 0));
        Check.refused("tray(0, 4, 1)", Check.ARGUMENT, () -> make(x, 0, 4, 1));
        Check.refused("tray(0, -1, 1)", Check.ARGUMENT, () -> make(x, 0, -1, 1));
        Check.refused("tray(0, 0, 31)", Check.ARGUMENT, () -> make(x, 0, 0, 31));
        Check.refused("tray(0, 0, -1)", Check.ARGUMENT, () -> make(x, 0, 0, -1));
        Check.refused("it is still missing", Check.STATE, () -> x.write(0, 0, 0));
        x.tray(0, 0, 30);
        Check.due("the last place", x.write(0, 29, 5), 5);
        x.tray(0, 1, 0);
        Check.refused("no place at all", Check.INDEX, () -> x.write(0, 0, 0));
        Check.due("copy into none", x.copy(0), 0);
        x.tray(0, 2, 3);
        Check.due("a row of 0s: no dials of 0 to 0", x.judge(0, 1), 1);
    }

    private static void write() {
        CrossedLines x = new CrossedLines();
        long[] told = {0, 1, -1, 127, 128, 255, 256, 32767, 32768, 65535, Integer.MAX_VALUE, Integer.MAX_VALUE + 1L,
            Long.MAX_VALUE, Long.MIN_VALUE};
        for (int sort = 0; sort < 4; sort++) {
            x.tray(sort, sort, 2);
            for (long v : told) {
                long cut = sort == 0 ? (byte) v : sort == 1 ? (short) v : sort == 2 ? (int) v : v;
                Check.due("write(" + sort + ", 1, " + v + ")", x.write(sort, 1, v), cut);
            }
        }
        Check.refused("write(4, 9, 0)", Check.ELEMENT, () -> x.write(4, 9, 0));
        Check.refused("write(0, 2, 0)", Check.INDEX, () -> x.write(0, 2, 0));
        Check.refused("write(0, -1, 0)", Check.INDEX, () -> x.write(0, -1, 0));
        Check.refused("write to a missing one", Check.STATE, () -> new CrossedLines().write(0, -1, 0));
    }

    private static void copy() {
        CrossedLines x = Check.told("lines 6;cord;cord;cord;call 0 to 1 at 2 lasts 3;call 2 to 3 at 3 lasts 1;"
                + "call 4 to 5 at 3 lasts 4;call 0 to 1 at 30 lasts 1;minute 1;");
        int[] want = {0, 1, 3, 2, 1, 1, 0, 0};
        for (int first = 0; first < 3; first++) {
            x.tray(0, 3, 8);
            Check.due("copy", x.copy(0), 8);
            for (int i = 0; i + first < 8; i++) {
                Check.due("copied behind " + first + " at " + i, held(x, 0, 8, i), want[i + first]);
            }
            x.minutes(1);
        }
        Check.refused("copy(4)", Check.ELEMENT, () -> x.copy(4));
        Check.refused("copy(1)", Check.STATE, () -> x.copy(1));
        CrossedLines last = Check.told("lines 2;cord;call 0 to 1 at 29 lasts 9;");
        last.tray(2, 0, 30);
        Check.due("thirty places", last.copy(2), 30);
        Check.due("the last of them", held(last, 2, 30, 29), 1);
        Check.due("ahead of it", held(last, 2, 30, 28), 0);
        Check.due("nothing is done", last.count(9), 0);
        CrossedLines pulled = Check.told("lines 2;cord;call 0 to 1 at 0 lasts 9;");
        pulled.minutes(1);
        pulled.pull(0);
        pulled.tray(2, 0, 3);
        pulled.copy(2);
        Check.due("a pulled one is in no use", held(pulled, 2, 3, 0), 0);
    }

    /** The number at a place of a tray that copy() has filled: told as a deed, it dials the line of that number. */
    private static int held(CrossedLines x, int tray, int many, int place) {
        x.image(2);
        for (int i = 0; i < many; i++) {
            if (i != place) {
                x.write(tray, i, -1);
            }
        }
        int calls = x.count(3);
        x.perform(tray);
        int number = x.count(3) > calls ? x.call(calls, 1) : 0;
        x.restore(2);
        x.copy(tray);
        return number;
    }

    private static long make(CrossedLines x, int i) {
        x.image(i);
        return 0;
    }

    private static long back(CrossedLines x, int i) {
        x.restore(i);
        return 0;
    }

    private static void images() {
        CrossedLines x = Check.told("lines 5;cord;slips:1;likes:who+whom;marries:1=1;call 0 to 1 at 0 lasts 5;minute 0;");
        Check.refused("image(3)", Check.ELEMENT, () -> make(x, 3));
        Check.refused("image(-1)", Check.ELEMENT, () -> make(x, -1));
        Check.refused("restore(3)", Check.ELEMENT, () -> back(x, 3));
        Check.refused("restore(-1)", Check.ELEMENT, () -> back(x, -1));
        Check.refused("restore(2)", Check.STATE, () -> back(x, 2));
        x.minutes(1);
        x.door(4);
        x.image(2);
        Check.exchange(x, "lines 2;");
        Check.due("another exchange", x.count(1), 2);
        x.image(0);
        x.restore(2);
        Check.due("lines", x.count(1), 5);
        Check.due("text", x.count(0), 7);
        Check.due("married", x.line(0, 1), 2);
        Check.due("on", x.call(0, 4), 1);
        Check.due("minute", x.count(9), 1);
        Check.due("door", x.line(4, 2), 1);
        Check.due("laws", x.likes(1, 2), 3);
        Check.due("slips", x.comesTo(0, 0), 2);
        x.restore(0);
        Check.due("the other one", x.count(1), 2);
        x.image(2);
        x.restore(2);
        Check.due("made anew", x.count(1), 2);
    }

    private static void imagesKeepDeeds() {
        CrossedLines x = Check.told("lines 5;cord;");
        for (int i = 0; i < 12; i++) {
            x.minutes(i + 1);
        }
        x.image(1);
        x.undo(10);
        x.door(0);
        x.restore(1);
        Check.due("deeds", x.count(10), 10);
        Check.due("minute", x.count(9), 78);
        Check.due("undo(3)", x.undo(3), 7);
        Check.due("minute then", x.count(9), 45);
        x.restore(1);
        Check.due("undo(10)", x.undo(10), 0);
        Check.due("minute first", x.count(9), 3);
    }

    private static void imagesLeaveOut() {
        CrossedLines x = Check.told("lines 5;");
        x.image(0);
        Check.exchange(x, "lines 5;cord 5;");
        x.feed(0, 0, 0, 0, 0);
        x.tray(3, 1, 2);
        x.restore(0);
        Check.due("the tape stays", x.count(11), 20);
        Check.due("the fault stays", x.fault(0), 3);
        Check.due("its place stays", x.fault(1), 13);
        Check.due("trays stay", x.copy(3), 2);
    }

    private static void count() {
        CrossedLines x = Check.told("lines 7;cord 0 1;cord;slips:call;marries:1=1;call 0 to 1 at 1 lasts 9;call 2 to 3 at 4 lasts 1;"
                + "call 4 to 5 at 5 lasts 3;call 0 to 6 at 5 lasts 1;call 3 to 5 at 9 lasts 1;minute 2;");
        x.minutes(4);
        x.feed(0, 0, 0, 0, 0);
        int[] want = {11, 7, 2, 5, 1, 1, 1, 2, 1, 6, 1, 20, -1};
        for (int what = 0; what < want.length; what++) {
            Check.due("count(" + what + ")", x.count(what), want[what]);
        }
        Check.due("count(-1)", x.count(-1), -1);
        Check.due("count(100)", x.count(100), -1);
    }
}
