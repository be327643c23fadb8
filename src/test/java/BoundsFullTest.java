/** The last LINE, CORD and CALL of an exchange that has as many as there may be, in each promise that uses them. */
public final class BoundsFullTest {
    public static void main(String[] args) {
        tenCallsTold();
        lastLineSpeaks();
        lastDoor();
        lastDoorCrossed();
        lastLineCrossed();
        lastCordUndone();
        lastCordInImages();
        lastCordForeseen();
        lastCordCrossed();
        lastCallCrossed();
        lastCallBest();
        lastCallHog();
        lastLinePaired();
        lastLineAsked();
        fullTextsAgain();
        Check.end();
    }

    /** Ten calls, each at its own minute, 2 times its number, by one cord that is enough; the last two as told. */
    private static String ten(String ninth, String tenth) {
        StringBuilder text = new StringBuilder("lines 8;cord;");
        for (int c = 0; c < 8; c++) {
            text.append("call ").append(c % 2 * 2).append(" to 1 at ").append(2 * c).append(" lasts 1;");
        }
        return text.append(ninth).append(tenth).toString();
    }

    /** Ten calls of which the first nine are lost from the beginning on. */
    private static String tenth(String cords, String tenth) {
        StringBuilder text = new StringBuilder("lines 8;").append(cords);
        for (int c = 0; c < 9; c++) {
            text.append("call 0 to 1 at 0 lasts 1;");
        }
        return text.append(tenth).append("minute 5;").toString();
    }

    private static void tenCallsTold() {
        Check.sentence(0, "numbered from 0 on, 10 at most.");
        CrossedLines x = Check.told(tenth("cord 0;cord 1;cord 6 7;", "call 6 to 7 at 9 lasts 99;"));
        int[] told = {6, 7, 9, 99, 0, -1, -1};
        for (int what = 0; what < told.length; what++) {
            Check.due("call(9, " + what + ")", x.call(9, what), told[what]);
        }
        Check.due("comesTo(9, 0)", x.comesTo(9, 0), 7);
        x.minutes(5);
        int[] on = {6, 7, 9, 99, 1, 7, 2};
        for (int what = 0; what < on.length; what++) {
            Check.due("on: call(9, " + what + ")", x.call(9, what), on[what]);
        }
        Check.due("cord(2, 1)", x.cord(2, 1), 9);
        Check.due("pull(9)", x.pull(9), 2);
        Check.due("pulled: call(9, 4)", x.call(9, 4), 2);
    }

    private static void lastLineSpeaks() {
        Check.sentence(5, "what 0: with whom it speaks");
        CrossedLines x = Check.told("lines 8;cord;slips:1;marries:1=1;call 7 to 5 at 0 lasts 2;");
        x.minutes(1);
        Check.due("line(7, 0)", x.line(7, 0), 6);
        Check.due("line(6, 0)", x.line(6, 0), 7);
        Check.due("line(7, 1)", x.line(7, 1), 6);
        Check.due("line(6, 1)", x.line(6, 1), 7);
        Check.due("count(8)", x.count(8), 1);
        Check.refused("line(8, 0)", Check.ELEMENT, () -> x.line(8, 0));
    }

    private static void lastDoor() {
        Check.sentence(0, "one of both LINES has its door shut");
        String text = "lines 8;cord;call 0 to 7 at 3 lasts 2;call 7 to 1 at 9 lasts 1;";
        CrossedLines x = Check.told(text);
        Check.due("open: lost(999)", x.lost(999), 0);
        Check.due("open: best(0)", x.best(0), 2);
        Check.due("open: together(7, 0)", x.together(7, 0), 3);
        Check.due("door(7)", x.door(7), 1);
        Check.due("line(7, 2)", x.line(7, 2), 1);
        Check.due("shut: lost(999)", x.lost(999), 2);
        Check.due("shut: firstLost()", x.firstLost(), 0);
        Check.due("shut: best(0)", x.best(0), 0);
        Check.due("shut: bestBy(3)", x.bestBy(3), 0);
        Check.due("shut: together(7, 0)", x.together(7, 0), -1);
        Check.due("shut: minutes(10)", x.minutes(10), 2);
    }

    private static void lastDoorCrossed() {
        Check.sentence(0, "CROSSED for twos of LINES in a TRAY");
        CrossedLines x = Check.told("lines 8;cord;call 0 to 1 at 3 lasts 2;call 7 to 1 at 9 lasts 1;");
        Check.tray(x, 0, 0, 7);
        Check.due("open: crossings", x.crossings(0), 2);
        Check.due("open: crossed", x.crossed(0, 0), 0);
        x.door(7);
        Check.due("shut: crossings", x.crossings(0), 0);
        Check.due("shut: crossed", x.crossed(0, 0), -1);
    }

    private static void lastLineCrossed() {
        Check.sentence(29, "How many ways there are to be CROSSED.");
        CrossedLines x = Check.told("lines 8;cord;cord;call 0 to 1 at 5 lasts 9;call 0 to 1 at 0 lasts 2;");
        Check.tray(x, 0, 0, 7);
        Check.due("one way leaves nothing to the next", x.crossings(0), 2);
        Check.due("again", x.crossings(0), 2);
    }

    private static void lastCordUndone() {
        Check.sentence(14, "n DEEDS are UNDONE");
        CrossedLines x = Check.told(tenth("cord 0;cord 1;cord 6 7;", "call 6 to 7 at 5 lasts 9;"));
        x.minutes(1);
        Check.due("on by the last cord", x.call(9, 6), 2);
        x.undo(1);
        Check.due("to come: call(9, 4)", x.call(9, 4), 0);
        Check.due("to come: call(9, 6)", x.call(9, 6), -1);
        x.minutes(1);
        x.minutes(20);
        x.undo(1);
        Check.due("on again: call(9, 4)", x.call(9, 4), 1);
        Check.due("on again: call(9, 6)", x.call(9, 6), 2);
        Check.due("on again: cord(2, 1)", x.cord(2, 1), 9);
    }

    private static void lastCordInImages() {
        Check.sentence(44, "All is as in an IMAGE.");
        CrossedLines x = Check.told(tenth("cord 0;cord 1;cord 6 7;", "call 6 to 7 at 5 lasts 9;"));
        x.image(0);
        x.minutes(1);
        x.image(1);
        x.restore(0);
        Check.due("to come: call(9, 6)", x.call(9, 6), -1);
        x.restore(1);
        Check.due("on: call(9, 6)", x.call(9, 6), 2);
        Check.due("on: pull(9)", x.pull(9), 2);
    }

    private static void lastCordForeseen() {
        Check.sentence(0, "no free CORD reaches both");
        String ahead = "call 4 to 5 at 9 lasts 1;call 4 to 5 at 14 lasts 1;";
        CrossedLines x = Check.told("lines 8;cord 0;cord 1;cord 4 5 6 7;" + ahead + "call 0 to 1 at 0 lasts 1;"
                + "call 0 to 1 at 0 lasts 1;call 0 to 1 at 0 lasts 1;call 0 to 1 at 0 lasts 1;call 0 to 1 at 0 lasts 1;"
                + "call 0 to 1 at 0 lasts 1;call 0 to 1 at 0 lasts 1;call 6 to 7 at 5 lasts 9;minute 5;");
        x.minutes(1);
        Check.due("the last call holds the last cord", x.cord(2, 1), 9);
        Check.due("lost(999)", x.lost(999), 1);
        Check.due("firstLost()", x.firstLost(), 0);
        Check.due("together(4, 5)", x.together(4, 5), 8);
        Check.due("best(1)", x.best(1), 2);
        Check.tray(x, 0, -1, -1, -1, -1);
        Check.due("judge(0, 2)", x.judge(0, 2), 8);
        Check.due("hog(999)", x.hog(999), -1);
    }

    private static void lastCordCrossed() {
        Check.sentence(0, "so that all these CALLS are ON some time");
        CrossedLines busy = Check.told("lines 8;cord 0;cord 1;cord 4 5 6 7;call 4 to 5 at 0 lasts 9;call 6 to 7 at 5 lasts 1;"
                + "call 6 to 7 at 9 lasts 1;");
        busy.minutes(1);
        Check.tray(busy, 0, 6, 7);
        Check.due("a call holds the last cord", busy.crossings(0), 1);
        Check.due("till it ends", busy.crossed(0, 0), 2);
        CrossedLines free = Check.told("lines 8;cord 0;cord 1;cord 4 5 6 7;call 6 to 5 at 9 lasts 9;call 6 to 5 at 2 lasts 1;");
        Check.tray(free, 0, 6, 7);
        Check.due("one way leaves the last cord to the next", free.crossings(0), 2);
    }

    private static void lastCallCrossed() {
        Check.sentence(0, "each two has a CALL to come of its own");
        CrossedLines x = Check.told(tenth("cord;", "call 6 to 5 at 7 lasts 9;"));
        Check.tray(x, 0, 7, 6);
        Check.due("the last call alone", x.crossings(0), 1);
        Check.due("its number", x.crossed(0, 0), 9);
        CrossedLines y = Check.told("lines 8;cord 2 3;cord 3 1;call 0 to 1 at 0 lasts 1;call 0 to 1 at 0 lasts 1;"
                + "call 0 to 1 at 0 lasts 1;call 0 to 1 at 0 lasts 1;call 0 to 1 at 0 lasts 1;call 0 to 1 at 0 lasts 1;"
                + "call 0 to 1 at 0 lasts 1;call 0 to 1 at 0 lasts 1;call 3 to 1 at 6 lasts 1;call 2 to 3 at 5 lasts 3;minute 5;");
        Check.tray(y, 0, 3, 1);
        Check.due("the last call comes by the law, and is in the way", y.crossings(0), 0);
        y.door(2);
        Check.due("it is lost, and isn't", y.crossings(0), 1);
    }

    private static void lastCallBest() {
        Check.sentence(0, "of like ones the least set as bits");
        CrossedLines apart = Check.told(ten("call 4 to 5 at 20 lasts 3;", "call 6 to 7 at 23 lasts 1;"));
        Check.due("all ten: best(0)", apart.best(0), 10);
        Check.due("all ten: best(1)", apart.best(1), 1023);
        CrossedLines cord = Check.told(ten("call 4 to 5 at 20 lasts 3;", "call 6 to 7 at 22 lasts 1;"));
        Check.due("one cord for the last two: best(0)", cord.best(0), 9);
        Check.due("one cord for the last two: best(1)", cord.best(1), 511);
        Check.due("one cord for the last two: bestBy(1)", cord.bestBy(1), 9);
        Check.due("two cords for the last two: bestBy(2)", cord.bestBy(2), 10);
        CrossedLines line = Check.told(ten("call 4 to 5 at 20 lasts 3;", "call 6 to 5 at 22 lasts 1;"));
        Check.due("one line for the last two: bestBy(2)", line.bestBy(2), 9);
        CrossedLines first = Check.told(ten("call 4 to 5 at 20 lasts 3;", "call 6 to 7 at 0 lasts 1;"));
        Check.due("one cord for the first and the last: best(1)", first.best(1), 511);
    }

    private static void lastCallHog() {
        Check.sentence(23, "The CALL to come without which (it never beginning) fewest others are LOST");
        CrossedLines x = Check.told(ten("call 4 to 5 at 50 lasts 1;", "call 6 to 7 at 0 lasts 99;"));
        Check.due("the first call is ahead of the last one, which alone is lost", x.hog(999), -1);
        x.door(0);
        x.door(2);
        Check.due("the last call holds the cord", x.hog(999), 9);
        Check.due("in 50 minutes the call of 50 isn't lost", x.hog(50), -1);
        Check.due("in 51 minutes", x.hog(51), 9);
    }

    private static void lastLinePaired() {
        Check.sentence(31, "With whom a LINE is in the first of them by the partner of LINE 0, 1 and so on");
        CrossedLines x = Check.told("lines 8;likes:10-(who+whom-7)*(who+whom-7);");
        for (int l = 0; l < 8; l++) {
            Check.due("partner(" + l + ")", x.partner(l), 7 - l);
            Check.due("happiest(" + (10 + l) + ")", x.happiest(10 + l), 7 - l);
        }
        Check.due("happiest(0)", x.happiest(0), 80);
        Check.due("leave(): 0 and 4 like each other by 1", x.leave(), 4);
        Check.due("darlings()", x.darlings(), 7);
        Check.due("darlings() of the last two", Check.told("lines 8;likes:who+whom;").darlings(), 67);
        Check.due("leave() of the last two", Check.told("lines 8;likes:who+whom-12;").leave(), 67);
    }

    private static void lastLineAsked() {
        Check.sentence(39, "by which the greatest number of these RULES by which it comes to one and the same LINE is least");
        CrossedLines last = Check.told("lines 8;call 0 to 7 at 0 lasts 1;call 0 to 3 at 0 lasts 1;");
        Check.tray(last, 0, 0, 0, 0);
        Check.due("all come to the last line, or all to line 3", last.ask(0), 0);
        CrossedLines first = Check.told("lines 8;call 1 to 0 at 0 lasts 1;call 1 to 3 at 0 lasts 1;");
        Check.tray(first, 0, 1, 0, 0);
        Check.due("all come to line 0, or all to line 3", first.ask(0), 0);
    }

    private static void fullTextsAgain() {
        Check.sentence(0, "THE EXCHANGE is a TEXT of at most 900 bytes");
        StringBuilder text = new StringBuilder("lines 4;cord;likes:who");
        while (text.length() + 3 <= 899) {
            text.append("+0");
        }
        text.append(';');
        CrossedLines x = new CrossedLines();
        for (int i = 1; i <= 8; i++) {
            Check.due("full text " + i, Check.exchange(x, text.toString()), 3);
            Check.due("likes(3, 1) by text " + i, x.likes(3, 1), 3);
        }
        Check.due("a small text behind them", Check.exchange(x, "lines 4;likes:whom*2;"), 2);
        Check.due("likes(3, 1) by it", x.likes(3, 1), 2);
    }
}
