/** Boundary cases of trays, images and counts, promises 40 to 45: each sentence that names one has a test of its own. */
public final class BoundsTraysTest {
    public static void main(String[] args) {
        traysFrom0To3();
        traysFrom0To30();
        traysOfZeros();
        traysAnew();
        writeCut();
        writePlaces();
        writeMissing();
        copyPlaces();
        copyInUse();
        copyCut();
        imagesFrom0To2();
        imageAllBut();
        imageTape();
        imageFault();
        imageTrays();
        imageDeeds();
        imageAnotherText();
        imageMadeAnew();
        imageStays();
        restoreNone();
        countEach();
        countOthers();
        countAtMost();
        calls512();
        Check.quoted(40, 45);
        Check.end();
    }

    private static long make(CrossedLines x, int tray, int sort, int many) {
        x.tray(tray, sort, many);
        return 0;
    }

    // ---- promises 40 and 41

    private static void traysFrom0To3() {
        Check.sentence(0, "TRAYS 0 to 3 are MISSING at first");
        CrossedLines x = new CrossedLines();
        for (int i = 0; i < 4; i++) {
            int tray = i;
            Check.refused("missing tray " + i, Check.STATE, () -> x.copy(tray));
            x.tray(i, 0, 1);
            Check.due("tray " + i, x.copy(i), 1);
        }
        Check.sentence(40, "NoSuchElementException: no such TRAY");
        Check.refused("tray(4, 0, 1)", Check.ELEMENT, () -> make(x, 4, 0, 1));
        Check.refused("tray(-1, 0, 1)", Check.ELEMENT, () -> make(x, -1, 0, 1));
    }

    private static void traysFrom0To30() {
        Check.sentence(0, "or rows of 0 to 30 numbers of 8 bits (sort 0), 16 (1), 32 (2), 64 (3).");
        CrossedLines x = new CrossedLines();
        for (int sort = -1; sort <= 4; sort++) {
            for (int many = -1; many <= 31; many++) {
                int asked = sort;
                int places = many;
                if (sort < 0 || sort > 3 || many < 0 || many > 30) {
                    Check.refused("tray(0, " + sort + ", " + many + ")", Check.ARGUMENT, () -> make(x, 0, asked, places));
                } else if (many < 2 || many > 28 || sort == 3) {
                    x.tray(0, sort, many);
                    Check.due("places of tray(0, " + sort + ", " + many + ")", x.copy(0), many);
                }
            }
        }
    }

    private static void traysOfZeros() {
        Check.sentence(40, "A TRAY is a row of so many 0s.");
        for (int sort = 0; sort < 4; sort++) {
            CrossedLines x = Check.told("lines 2;");
            x.tray(0, sort, 30);
            for (int i = 0; i < 30; i++) {
                Check.due("the first that can't be, 0 to 0", x.judge(0, 0), i);
                x.write(0, i, -1);
            }
            Check.due("none is left", x.judge(0, 0), -1);
        }
    }

    private static void traysAnew() {
        Check.sentence(40, "A TRAY is a row of so many 0s.");
        CrossedLines x = Check.told("lines 2;");
        Check.tray(x, 0, -1, -1, -1, -1);
        x.tray(0, 3, 3);
        Check.due("0s again", x.judge(0, 0), 0);
        Check.due("three of them", x.copy(0), 3);
        x.tray(0, 0, 4);
        Check.due("numbers of 8 bits", x.write(0, 3, 256), 0);
        x.tray(0, 1, 0);
        Check.due("none of them", x.judge(0, 0), -1);
        Check.refused("no place", Check.INDEX, () -> x.write(0, 0, 0));
        Check.tray(x, 1, -1);
        x.tray(2, 0, 1);
        Check.due("another tray stays", x.judge(1, 0), -1);
    }

    private static void writeCut() {
        Check.sentence(41, "cut to its sort: as it is there");
        long[][] edges = {
            {127, 127}, {128, -128}, {255, -1}, {256, 0}, {-128, -128}, {-129, 127}, {-1, -1}, {Long.MAX_VALUE, -1},
            {Long.MIN_VALUE, 0}};
        for (int sort = 0; sort < 4; sort++) {
            int bits = 8 << sort;
            CrossedLines x = new CrossedLines();
            x.tray(0, sort, 2);
            long half = 1L << bits - 1;
            Check.due("the greatest", x.write(0, 0, half - 1), half - 1);
            Check.due("one more", x.write(0, 0, half), sort == 3 ? Long.MIN_VALUE : -half);
            Check.due("the least", x.write(0, 0, -half), -half);
            Check.due("one less", x.write(0, 0, -half - 1), half - 1);
            Check.due("all bits", x.write(0, 0, half * 2 - 1), -1);
            Check.due("none of its bits", x.write(0, 0, sort == 3 ? 0 : half * 2), 0);
            Check.due("NONE", x.write(0, 1, -1), -1);
            for (long[] edge : edges) {
                Check.due("write of " + edge[0] + " by " + bits, x.write(0, 1, edge[0]), sort == 0 ? edge[1]
                        : sort == 3 ? edge[0] : sort == 2 ? (int) edge[0] : (short) edge[0]);
            }
        }
    }

    private static void writePlaces() {
        Check.sentence(41, "A number comes to a place of a TRAY");
        for (int many : new int[] {0, 1, 2, 29, 30}) {
            CrossedLines x = Check.told("lines 2;");
            x.tray(3, 3, many);
            for (int place = 0; place < many; place++) {
                Check.due("write(3, " + place + ", -1)", x.write(3, place, -1), -1);
            }
            Check.due("all are there", x.judge(3, 0), -1);
            Check.sentence(41, "IndexOutOfBoundsException: it has no such place.");
            for (int place : new int[] {Integer.MIN_VALUE, -1, many, 30, Integer.MAX_VALUE}) {
                Check.refused("write(3, " + place + ", 0) of " + many, Check.INDEX, () -> x.write(3, place, 0));
            }
            Check.due("none is changed", x.judge(3, 0), -1);
        }
    }

    private static void writeMissing() {
        Check.sentence(41, "IllegalStateException: it is MISSING");
        for (int i = 0; i < 4; i++) {
            int tray = i;
            Check.refused("write(" + i + ", 0, 0)", Check.STATE, () -> new CrossedLines().write(tray, 0, 0));
            Check.refused("write(" + i + ", 30, 0)", Check.STATE, () -> new CrossedLines().write(tray, 30, 0));
        }
        Check.refused("write(4, 30, 0)", Check.ELEMENT, () -> new CrossedLines().write(4, 30, 0));
    }

    // ---- promise 42

    /** The number at a place of a tray from copy(): told with NONE at all others, it dials a call from 0 to that line. */
    private static int held(CrossedLines x, int tray, int many, int place) {
        x.image(2);
        for (int i = 0; i < many; i++) {
            if (i != place) {
                x.write(tray, i, -1);
            }
        }
        int calls = x.count(3);
        x.perform(tray);
        int number = x.count(3) > calls ? x.call(calls, 1) : 0;
        x.restore(2);
        x.copy(tray);
        return number;
    }

    private static void copyPlaces() {
        Check.sentence(42, "comes into a TRAY from its first place on, as many as it has places: how many.");
        CrossedLines x = Check.told("lines 2;cord;call 0 to 1 at 1 lasts 1;call 0 to 1 at 28 lasts 1;call 0 to 1 at 29 lasts 1;"
                + "call 0 to 1 at 30 lasts 1;");
        for (int many : new int[] {0, 1, 2, 29, 30}) {
            x.tray(0, 0, many);
            Check.due("copy into " + many, x.copy(0), many);
            if (many > 0) {
                Check.due("the last of " + many, held(x, 0, many, many - 1), many == 1 ? 0 : 1);
            }
        }
        Check.due("nothing is done", x.count(9), 0);
        Check.due("no deed", x.count(10), 0);
    }

    private static void copyInUse() {
        Check.sentence(42, "How many CORDS are in use at the end of this MINUTE, the next and so on");
        CrossedLines x = Check.told("lines 8;cord;cord;cord;call 0 to 1 at 0 lasts 2;call 2 to 3 at 1 lasts 2;"
                + "call 4 to 5 at 1 lasts 1;call 6 to 7 at 1 lasts 9;call 6 to 7 at 4 lasts 1;");
        int[] want = {1, 3, 1, 0, 1, 0};
        for (int first = 0; first < 6; first++) {
            x.tray(1, 2, 6);
            x.copy(1);
            Check.due("from " + first + " on: this minute", held(x, 1, 6, 0), want[first]);
            Check.due("from " + first + " on: the next one", held(x, 1, 6, 1), first < 5 ? want[first + 1] : 0);
            x.minutes(1);
        }
        Check.due("one was lost", x.count(7), 1);
        CrossedLines pulled = Check.told("lines 6;cord;cord;call 0 to 1 at 0 lasts 9;call 2 to 3 at 0 lasts 3;call 4 to 5 at 2 lasts 1;");
        pulled.minutes(1);
        pulled.pull(0);
        pulled.tray(1, 2, 4);
        pulled.copy(1);
        int[] uses = {1, 2, 0, 0};
        for (int i = 0; i < uses.length; i++) {
            Check.due("one is pulled: place " + i, held(pulled, 1, 4, i), uses[i]);
        }
    }

    private static void copyCut() {
        Check.sentence(42, "comes into a TRAY from its first place on");
        for (int sort = 0; sort < 4; sort++) {
            CrossedLines x = Check.told("lines 4;cord;call 0 to 1 at 0 lasts 1;");
            x.tray(2, sort, 3);
            for (int i = 0; i < 3; i++) {
                x.write(2, i, 77);
            }
            x.copy(2);
            Check.due("1, 0, 0: 1 can be, 0 can't", x.judge(2, 0), 1);
            x.write(2, 1, -1);
            Check.due("the last is 0", x.judge(2, 0), 2);
        }
    }

    // ---- promises 43 and 44

    private static long image(CrossedLines x, int i) {
        x.image(i);
        return 0;
    }

    private static long restore(CrossedLines x, int i) {
        x.restore(i);
        return 0;
    }

    private static void imagesFrom0To2() {
        Check.sentence(0, "IMAGES 0 to 2");
        CrossedLines x = new CrossedLines();
        for (int i = 0; i < 3; i++) {
            x.minutes(1);
            x.image(i);
        }
        for (int i : new int[] {1, 0, 2, 2, 0}) {
            x.restore(i);
            Check.due("the minute of image " + i, x.count(9), i + 1);
        }
        Check.sentence(43, "An IMAGE is made. NoSuchElementException: no such one.");
        Check.refused("image(3)", Check.ELEMENT, () -> image(x, 3));
        Check.refused("image(-1)", Check.ELEMENT, () -> image(x, -1));
        Check.sentence(44, "NoSuchElementException: no such one");
        Check.refused("restore(3)", Check.ELEMENT, () -> restore(x, 3));
        Check.refused("restore(-1)", Check.ELEMENT, () -> restore(x, -1));
    }

    private static void imageAllBut() {
        Check.sentence(44, "All is as in an IMAGE.");
        Twins.alike("deeds of each sort behind an image", x -> {
            Twins.rich(x);
            x.image(0);
            x.dial(0, 1, 1);
            x.minutes(50);
            x.door(0);
            x.undo(2);
            x.restore(0);
        }, x -> {
            Twins.rich(x);
            x.image(0);
        });
        Twins.alike("another text behind an image", x -> {
            Twins.rich(x);
            x.image(0);
            Check.exchange(x, "lines 8;cord;cord;cord;slips:3;likes:who;call 0 to 1 at 0 lasts 5;");
            x.minutes(5);
            x.restore(0);
            Check.exchange(x, "lines 2;cord 0 7;");
            x.feed(0x6c696e65, 0x7320333b, 0x20202020, 0x20202020, 0x20202020);
        }, x -> {
            Twins.rich(x);
            x.image(0);
        });
        CrossedLines on = Check.told("lines 3;cord;slips:1;marries:1=1;call 0 to 1 at 0 lasts 3;");
        on.minutes(1);
        on.image(1);
        on.minutes(9);
        on.restore(1);
        Check.due("on again", on.line(0, 0), 2);
        on.minutes(2);
        Check.due("to its last minute", on.line(0, 0), 2);
        on.minutes(1);
        Check.due("and over", on.line(0, 0), -1);
    }

    private static void imageTape() {
        Check.sentence(0, "all but the tape");
        CrossedLines x = new CrossedLines();
        x.feed(0x6c696e65, 0x7320333b, 0x20202020, 0x20202020, 0x20202020);
        x.image(0);
        x.feed(0x20202020, 0x20202020, 0x20202020, 0x20202020, 0x636f7264);
        x.restore(0);
        Check.due("the tape stays", x.count(11), 40);
        Check.due("with all that is on it", x.exchange(40), -12);
        Check.due("its end", x.fault(1), 40);
        x.restore(0);
        Check.due("an empty one, too", x.count(11), 0);
    }

    private static void imageFault() {
        Check.sentence(0, "all but the tape, the FAULT");
        CrossedLines x = new CrossedLines();
        Check.exchange(x, "lines 9;");
        x.image(0);
        Check.exchange(x, "lines 2;cord;cord;cord;cord;");
        x.restore(0);
        Check.due("the later fault stays", x.fault(0), 4);
        Check.due("its place, too", x.fault(1), 23);
        x.image(0);
        Check.exchange(x, "lines 2;");
        x.restore(0);
        Check.due("none stays none", x.fault(0), 0);
        Check.due("no place", x.fault(1), -1);
    }

    private static void imageTrays() {
        Check.sentence(0, "the FAULT and TRAYS");
        CrossedLines x = Check.told("lines 2;");
        Check.tray(x, 0, -1, -1);
        x.image(0);
        x.write(0, 1, 0);
        x.tray(1, 3, 0);
        x.restore(0);
        Check.due("what was written stays", x.judge(0, 0), 1);
        Check.due("a tray that was missing stays", x.copy(1), 0);
        Check.refused("one that is missing stays so", Check.STATE, () -> x.copy(2));
    }

    private static void imageDeeds() {
        Check.sentence(0, "all but the tape, the FAULT and TRAYS, as it was");
        CrossedLines x = new CrossedLines();
        for (int i = 1; i <= 12; i++) {
            x.minutes(i);
        }
        x.image(1);
        Check.due("undo(10)", x.undo(10), 0);
        x.door(0);
        x.restore(1);
        Check.due("deeds that can be undone", x.count(10), 10);
        Check.due("undo(4)", x.undo(4), 6);
        Check.due("the minute", x.count(9), 36);
        x.image(2);
        x.restore(1);
        Check.due("once more", x.undo(10), 0);
        Check.due("the minute", x.count(9), 3);
        x.restore(2);
        Check.due("the later image", x.undo(6), 0);
        Check.due("the minute", x.count(9), 3);
        Check.refused("no more", Check.ARGUMENT, () -> x.undo(1));
    }

    private static void imageAnotherText() {
        Check.sentence(44, "All is as in an IMAGE.");
        CrossedLines x = Check.told("lines 3;cord 0 1;slips:1;likes:who*whom;marries:1=1;call 0 to 1 at 5 lasts 1;minute 4;");
        x.image(0);
        Check.due("stable()", x.stable(), 1);
        Check.exchange(x, "lines 8;cord;cord;cord;likes:5;");
        Check.due("stable() of the other text", x.stable(), 105);
        x.restore(0);
        int[] counts = {7, 3, 1, 1, 1, 0, 0, 0, 0, 4, 0, 0};
        for (int what = 0; what < counts.length; what++) {
            Check.due("count(" + what + ")", x.count(what), counts[what]);
        }
        Check.due("stable()", x.stable(), 1);
        Check.due("partner(0)", x.partner(0), -1);
        Check.due("likes(1, 2)", x.likes(1, 2), 2);
        Check.due("comesTo(0, 1)", x.comesTo(0, 1), 2);
        Check.due("cord(0, 0)", x.cord(0, 0), 3);
        Check.due("lost(9)", x.lost(9), 1);
        Check.refused("line(3, 0)", Check.ELEMENT, () -> x.line(3, 0));
    }

    private static void imageMadeAnew() {
        Check.sentence(43, "An IMAGE is made.");
        CrossedLines x = new CrossedLines();
        x.image(2);
        x.minutes(5);
        x.image(2);
        x.minutes(5);
        x.restore(2);
        Check.due("the later one", x.count(9), 5);
        x.undo(1);
        x.image(2);
        x.minutes(9);
        x.restore(2);
        Check.due("the latest one", x.count(9), 0);
        Check.due("its deeds", x.count(10), 0);
    }

    private static void imageStays() {
        Check.sentence(44, "All is as in an IMAGE.");
        CrossedLines x = Check.told("lines 2;cord;call 0 to 1 at 0 lasts 9;");
        x.image(0);
        for (int i = 0; i < 3; i++) {
            x.minutes(1);
            x.door(1);
            x.pull(0);
            x.restore(0);
            Check.due("to come", x.call(0, 4), 0);
            Check.due("open", x.line(1, 2), 0);
            Check.due("the minute", x.count(9), 0);
            Check.due("no deeds", x.count(10), 0);
        }
        x.minutes(1);
        x.image(1);
        x.restore(0);
        x.restore(1);
        Check.due("the other one", x.call(0, 4), 1);
    }

    private static void restoreNone() {
        Check.sentence(44, "IllegalStateException: none was made.");
        for (int made = 0; made < 3; made++) {
            CrossedLines x = new CrossedLines();
            x.image(made);
            for (int i = 0; i < 3; i++) {
                int asked = i;
                if (i != made) {
                    Check.refused("restore(" + i + ") with " + made + " made", Check.STATE, () -> restore(x, asked));
                }
            }
            x.restore(made);
            Check.due("as it was", x.count(9), 0);
        }
        CrossedLines y = new CrossedLines();
        Check.refused("restore(0)", Check.STATE, () -> restore(y, 0));
        y.image(0);
        Check.exchange(y, "lines 5;");
        y.restore(0);
        Check.due("an image stays behind another text", y.count(1), 2);
    }

    // ---- promise 45

    private static void countEach() {
        Check.sentence(45, "0 LINES of text, 1 LINES, 2 CORDS, 3 CALLS, 4 those to come, 5 ON, 6 OVER, 7 LOST, 8 twos MARRIED, "
                + "9 MINUTE, 10 DEEDS that can be UNDONE, 11 bytes on the tape");
        CrossedLines x = Check.told("lines 8;cord;cord;slips:1;marries:1=1;call 0 to 1 at 3 lasts 1;call 3 to 4 at 4 lasts 9;"
                + "call 6 to 0 at 4 lasts 9;call 4 to 5 at 4 lasts 1;call 4 to 5 at 5 lasts 1;call 4 to 5 at 6 lasts 1;"
                + "call 4 to 5 at 7 lasts 1;call 4 to 5 at 8 lasts 1;call 4 to 5 at 0 lasts 1;call 4 to 5 at 1 lasts 1;minute 2;");
        x.minutes(1);
        x.minutes(1);
        x.minutes(1);
        x.feed(0, 0, 0, 0, 0);
        x.feed(0, 0, 0, 0, 0);
        int[] want = {16, 8, 2, 10, 4, 2, 1, 3, 3, 5, 3, 40};
        for (int what = 0; what < want.length; what++) {
            Check.due("count(" + what + ")", x.count(what), want[what]);
        }
    }

    private static void countOthers() {
        Check.sentence(45, "NONE for others.");
        CrossedLines x = new CrossedLines();
        for (int what : new int[] {Integer.MIN_VALUE, -1, 12, 13, Integer.MAX_VALUE}) {
            Check.due("count(" + what + ")", x.count(what), -1);
        }
    }

    private static void countAtMost() {
        Check.sentence(45, "10 DEEDS that can be UNDONE, 11 bytes on the tape");
        CrossedLines x = new CrossedLines();
        for (int i = 1; i <= 12; i++) {
            x.door(0);
            Check.due("deeds behind " + i, x.count(10), Math.min(i, 10));
        }
        for (int i = 1; i <= 46; i++) {
            x.feed(0, 0, 0, 0, 0);
            Check.due("bytes behind " + i + " feeds", x.count(11), Math.min(20 * i, 900));
        }
        StringBuilder text = new StringBuilder("lines 8;cord;cord;cord;");
        for (int c = 0; c < 10; c++) {
            text.append("call 0 to 1 at ").append(c).append(" lasts 1;");
        }
        CrossedLines y = Check.told(text.toString());
        int[] want = {14, 8, 3, 10, 10, 0, 0, 0, 0, 0, 0, 0};
        for (int what = 0; what < want.length; what++) {
            Check.due("count(" + what + ")", y.count(what), want[what]);
        }
        y.minutes(11);
        Check.due("all over", y.count(6), 10);
        CrossedLines z = Check.told("lines 8;cord;cord;cord;slips:1;marries:1=1;call 0 to 1 at 0 lasts 1;"
                + "call 1 to 2 at 0 lasts 1;call 4 to 5 at 0 lasts 1;call 5 to 6 at 1 lasts 1;call 7 to 0 at 1 lasts 1;");
        z.minutes(9);
        Check.due("four twos married, nobody else", z.count(8), 4);
    }

    private static void calls512() {
        Check.sentence(0, "An object is used for at most 512 calls after it has been made");
        CrossedLines x = new CrossedLines();
        for (int i = 1; i <= 511; i++) {
            x.minutes(99);
        }
        Check.due("the 512th call", x.count(9), 511 * 99);
        CrossedLines y = new CrossedLines();
        for (int i = 1; i <= 127; i++) {
            y.feed(0x6c696e65, 0x7320383b, 0x20202020, 0x20202020, 0x20202020);
            Check.due("exchange " + i, y.exchange(20), 1);
            y.image(i % 3);
            y.tray(i % 4, 3, 30);
        }
        Check.due("the 509th call", y.count(1), 8);
    }
}
