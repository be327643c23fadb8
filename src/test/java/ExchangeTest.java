/** Promises 1 to 9: a new object, the tape, the text and what it tells. */
public final class ExchangeTest {
    public static void main(String[] args) {
        newObject();
        tape();
        text();
        faultsOfTokens();
        faultsOfPlaces();
        faultsOfNumbers();
        faultsOfMeasure();
        faultKept();
        linesAndCords();
        calls();
        laws();
        laterStrike();
        comesTo();
        Check.end();
    }

    private static void newObject() {
        CrossedLines x = new CrossedLines();
        int[] counts = {0, 2, 0, 0, 0, 0, 0, 0, 0, 0, 0, 0};
        for (int i = 0; i < counts.length; i++) {
            Check.due("new: count(" + i + ")", x.count(i), counts[i]);
        }
        for (int i = 0; i < 4; i++) {
            int tray = i;
            Check.refused("new: copy(" + i + ")", Check.STATE, () -> x.copy(tray));
        }
        Check.due("new: fault(0)", x.fault(0), 0);
        Check.due("new: fault(1)", x.fault(1), -1);
        Check.due("new: line(1, 0)", x.line(1, 0), -1);
        Check.due("new: line(1, 1)", x.line(1, 1), -1);
        Check.due("new: line(1, 2)", x.line(1, 2), 0);
        Check.due("NONE", CrossedLines.NONE, -1);
    }

    private static void tape() {
        CrossedLines x = new CrossedLines();
        for (int i = 1; i <= 45; i++) {
            Check.due("feed " + i, x.feed(0, 0, 0, 0, 0), 20 * i);
        }
        Check.due("feed beyond 900", x.feed(1, 1, 1, 1, 1), -1);
        Check.due("count(11)", x.count(11), 900);
        Check.refused("exchange(-1)", Check.ARGUMENT, () -> x.exchange(-1));
        Check.refused("exchange(901)", Check.ARGUMENT, () -> x.exchange(901));
        Check.due("count(11) behind throws", x.count(11), 900);
        Check.due("exchange(900)", x.exchange(900), -11);
        Check.due("count(11) behind exchange", x.count(11), 0);
        Check.refused("exchange(1) of an empty tape", Check.ARGUMENT, () -> x.exchange(1));
        Check.due("feed anew", x.feed(0x6c696e65, 0x7320323b, 0x80000000, 0, 0), 20);
        Check.due("exchange of the highest bytes first", x.exchange(8), 1);
        Check.feed(x, "lines 23;          ".getBytes());
        Check.due("a text that is cut within a number", x.exchange(7), -12);
        Check.due("its end", x.fault(1), 7);
        Check.feed(x, "lines 2;cords      ".getBytes());
        Check.due("a text that is cut within a word", x.exchange(12), -12);
        Check.due("that end", x.fault(1), 12);
        Check.feed(x, "lines 2;           ".getBytes());
        Check.due("nothing of a text", x.exchange(0), -12);
        Check.due("the tape is empty then", x.count(11), 0);
    }

    private static void text() {
        Check.good("lines 2;", 1);
        Check.good("\n lines\n8 ; \n", 1);
        Check.good("lines8;cord0 1 2;call0to1at2lasts3;", 3);
        Check.good("lines 002;cord 000 001;", 2);
        Check.good("lines 3;cord;cord;cord;slips:(((((( 1 ))))));", 5);
        Check.good("lines 2;marries:not[not[not[1=1]]]and[1<2 or 2>1];", 2);
        Check.good("lines 2;marries:not not not not not (1)=1 and ((((((1))))))=1;", 2);
        StringBuilder whole = new StringBuilder("lines 2;");
        while (whole.length() < 900) {
            whole.append(' ');
        }
        Check.good(whole.toString(), 1);
    }

    private static void faultsOfTokens() {
        Check.fault("lines 2;\tcord;", 1, 8);
        Check.fault("lines 2;\rcord;", 1, 8);
        Check.fault("Lines 2;", 1, 0);
        Check.fault("lines 0002;", 1, 6);
        Check.fault("lines 2;call 0 to 1 at 123456789012 lasts 1;", 1, 23);
        Check.fault("lines 2;cord .;", 1, 13);
        Check.fault("lines 2;cord\u00e9;", 1, 12);
        Check.fault("lines 2;\0", 1, 8);
        Check.fault("?", 1, 0);
        Check.fault("lines 2;slips:1/2;", 1, 15);
    }

    private static void faultsOfPlaces() {
        Check.fault("", 2, 0);
        Check.fault("   ", 2, 3);
        Check.fault("lines", 2, 5);
        Check.fault("lines  ", 2, 7);
        Check.fault("lines 2", 2, 7);
        Check.fault("lines 2;;", 2, 8);
        Check.fault("minute 1;lines 2;", 2, 0);
        Check.fault("lines 2;cord;lines 2;", 2, 13);
        Check.fault("lines 2;cords;", 2, 8);
        Check.fault("lines 2;zz;", 2, 8);
        Check.fault("lines 2;9;", 2, 8);
        Check.fault("lines 2;cord cord;", 2, 13);
        Check.fault("lines 2;call 0 to 1 lasts 1 at 1;", 2, 20);
        Check.fault("lines 2;slips:likes;", 2, 14);
        Check.fault("lines 2;slips:liked;", 2, 14);
        Check.fault("lines 2;likes:to;", 2, 14);
        Check.fault("lines 2;likes:minute;", 2, 14);
        Check.fault("lines 2;marries:whom=1;", 2, 16);
        Check.fault("lines 2;slips:[1];", 2, 14);
        Check.fault("lines 2;slips:1=1;", 2, 15);
        Check.fault("lines 2;slips:(1;", 2, 16);
        Check.fault("lines 2;slips:1+;", 2, 16);
        Check.fault("lines 2;slips:-1;", 2, 14);
        Check.fault("lines 2;slips:1 2;", 2, 16);
        Check.fault("lines 2;slips:();", 2, 15);
        Check.fault("lines 2;slips:;", 2, 14);
        Check.fault("lines 2;slips", 2, 13);
        Check.fault("lines 2;marries:(1=1);", 2, 18);
        Check.fault("lines 2;marries:[1=1;", 2, 20);
        Check.fault("lines 2;marries:[1];", 2, 18);
        Check.fault("lines 2;marries:1=1=1;", 2, 19);
        Check.fault("lines 2;marries:1=1 or;", 2, 22);
        Check.fault("lines 2;marries:1=not 1=1;", 2, 18);
        Check.fault("lines 2;marries:not;", 2, 19);
    }

    private static void faultsOfNumbers() {
        Check.fault("lines 1;", 3, 6);
        Check.fault("lines 9;", 3, 6);
        Check.fault("lines 999 cord", 3, 6);
        Check.fault("lines 8;cord 7 8;", 3, 15);
        Check.fault("lines 3;call 3 to 0 at 0 lasts 1;", 3, 13);
        Check.fault("lines 3;call 0 to 3 at 0 lasts 1;", 3, 18);
        Check.fault("lines 3;call 2 to 2 at 0 lasts 1;", 3, 18);
        Check.fault("lines 3;call 2 to 1 at 999 lasts 0;", 3, 33);
        Check.fault("lines 3;call 2 to 1 at 0 lasts 100;", 3, 31);
        Check.good("lines 3;call 2 to 1 at 999 lasts 99;minute 999;", 3);
    }

    private static void faultsOfMeasure() {
        Check.fault("lines 2;cord;cord 1;cord;cord 7", 4, 25);
        StringBuilder calls = new StringBuilder("lines 2;");
        for (int i = 0; i < 10; i++) {
            calls.append("call 0 to 1 at 0 lasts 1;");
        }
        Check.good(calls.toString(), 11);
        Check.fault(calls + "call x", 4, calls.length());
        Check.fault("lines 2;slips:(((((((1)))))));", 4, 20);
        Check.fault("lines 2;marries:not[not[not[(1)=1]]];", 4, 28);
        Check.fault("lines 2;marries:[[[[[[[1=1]]]]]]];", 4, 22);
        Check.fault("lines 2;marries:not not not not not not [1=1];", 4, 40);
        Check.fault("lines 2;slips:((((((not 1))))));", 2, 20);
    }

    private static void faultKept() {
        CrossedLines x = Check.told("lines 4;cord 0 1;call 0 to 1 at 0 lasts 1;");
        x.door(2);
        Check.due("a faulty text", Check.exchange(x, "lines 5;cord 9;"), -13);
        Check.due("all else stays: lines", x.count(1), 4);
        Check.due("all else stays: text", x.count(0), 3);
        Check.due("all else stays: doors", x.line(2, 2), 1);
        Check.due("all else stays: deeds", x.count(10), 1);
        Check.due("the tape is empty", x.count(11), 0);
        Check.refused("exchange(5)", Check.ARGUMENT, () -> x.exchange(5));
        Check.due("a throw leaves the fault", x.fault(0), 3);
        Check.due("its place", x.fault(1), 13);
        Check.due("fault(2)", x.fault(2), -1);
        Check.due("fault(-1)", x.fault(-1), -1);
        Check.due("a good text", Check.exchange(x, "lines 5;"), 1);
        Check.due("without: fault(0)", x.fault(0), 0);
        Check.due("without: fault(1)", x.fault(1), -1);
        Check.due("doors are open", x.line(2, 2), 0);
        Check.due("no deeds", x.count(10), 0);
    }

    private static void linesAndCords() {
        CrossedLines x = Check.told("lines 4;cord 3 1 3;cord;call 1 to 3 at 5 lasts 2;minute 5;");
        Check.due("cord(0, 0)", x.cord(0, 0), 10);
        Check.due("cord(1, 0)", x.cord(1, 0), 15);
        Check.due("cord(0, 1)", x.cord(0, 1), -1);
        x.minutes(1);
        Check.due("cord(0, 1) on", x.cord(0, 1), 0);
        Check.due("cord(1, 1) free", x.cord(1, 1), -1);
        Check.due("line(1, 0)", x.line(1, 0), 3);
        Check.due("line(3, 0)", x.line(3, 0), 1);
        Check.due("line(0, 0)", x.line(0, 0), -1);
        Check.refused("cord(2, 0)", Check.ELEMENT, () -> x.cord(2, 0));
        Check.refused("cord(-1, 5)", Check.ELEMENT, () -> x.cord(-1, 5));
        Check.refused("cord(0, 2)", Check.ARGUMENT, () -> x.cord(0, 2));
        Check.refused("cord(0, -1)", Check.ARGUMENT, () -> x.cord(0, -1));
        Check.refused("line(4, 0)", Check.ELEMENT, () -> x.line(4, 0));
        Check.refused("line(-1, 9)", Check.ELEMENT, () -> x.line(-1, 9));
        Check.refused("line(3, 3)", Check.ARGUMENT, () -> x.line(3, 3));
        Check.refused("line(3, -1)", Check.ARGUMENT, () -> x.line(3, -1));
    }

    private static void calls() {
        CrossedLines x = Check.told("lines 4;cord 0 1;cord;call 3 to 1 at 7 lasts 2;call 2 to 0 at 6 lasts 9;minute 7;");
        int[] fresh = {3, 1, 7, 2, 0, -1, -1};
        int[] late = {2, 0, 6, 9, 3, -1, -1};
        for (int what = 0; what < 7; what++) {
            Check.due("call(0, " + what + ")", x.call(0, what), fresh[what]);
            Check.due("call(1, " + what + ")", x.call(1, what), late[what]);
        }
        x.minutes(2);
        Check.due("on", x.call(0, 4), 1);
        Check.due("came to", x.call(0, 5), 1);
        Check.due("by", x.call(0, 6), 1);
        x.minutes(1);
        Check.due("over", x.call(0, 4), 2);
        Check.due("had come to", x.call(0, 5), 1);
        Check.due("had been by", x.call(0, 6), 1);
        Check.refused("call(2, 0)", Check.ELEMENT, () -> x.call(2, 0));
        Check.refused("call(-1, 9)", Check.ELEMENT, () -> x.call(-1, 9));
        Check.refused("call(0, 7)", Check.ARGUMENT, () -> x.call(0, 7));
        Check.refused("call(0, -1)", Check.ARGUMENT, () -> x.call(0, -1));
    }

    private static void laws() {
        CrossedLines x = Check.told("lines 3;likes:1-2-3*(who+2)*whom;");
        for (int l = 0; l < 3; l++) {
            for (int m = 0; m < 3; m++) {
                Check.due("likes(" + l + ", " + m + ")", x.likes(l, m), -1 - 3 * (l + 2) * m);
            }
        }
        Check.refused("likes(3, 0)", Check.ELEMENT, () -> x.likes(3, 0));
        Check.refused("likes(0, -1)", Check.ELEMENT, () -> x.likes(0, -1));
        Check.due("no law", Check.told("lines 3;").likes(0, 1), 0);
        Check.due("kept above", Check.told("lines 2;likes:999*999*999-1;").likes(0, 1), 999999);
        Check.due("kept below", Check.told("lines 2;likes:(0-999)*999*999+1;").likes(0, 1), -999999);
        Check.due("kept sum", Check.told("lines 2;likes:999*999*999+999-999*999*999;").likes(0, 1), 0);
        Check.due("kept product", Check.told("lines 2;likes:(0-999*999*999)*(999*999*999);").likes(0, 1), -1000000);
    }

    private static void laterStrike() {
        CrossedLines x = Check.told("lines 3;likes:1;slips:1;minute 9;call 0 to 1 at 8 lasts 1;likes:2;slips:2;minute 8;");
        Check.due("likes", x.likes(0, 1), 2);
        Check.due("slips", x.comesTo(0, 0), 0);
        Check.due("minute", x.count(9), 8);
        Check.due("to come by the later minute", x.call(0, 4), 0);
        CrossedLines y = Check.told("lines 3;cord;call 0 to 1 at 0 lasts 1;slips:1;marries:1=1;marries:1=2;");
        Check.due("marries", y.weddings(1), 0);
    }

    private static void comesTo() {
        CrossedLines x = Check.told("lines 7;call 2 to 5 at 0 lasts 1;call 3 to 1 at 0 lasts 1;minute 50;"
                + "slips:from*100+to*10+minute+call*999-999*5;");
        for (int n : new int[] {0, 9, 10, 69, 70, 999}) {
            int minute = (50 + n) % 60;
            Check.due("comesTo(0, " + n + ")", x.comesTo(0, n), (5 + Math.floorMod(250 + minute - 4995, 7)) % 7);
            Check.due("comesTo(1, " + n + ")", x.comesTo(1, n), (1 + Math.floorMod(310 + minute - 3996, 7)) % 7);
        }
        Check.refused("comesTo(2, -1)", Check.ELEMENT, () -> x.comesTo(2, -1));
        Check.refused("comesTo(-1, 0)", Check.ELEMENT, () -> x.comesTo(-1, 0));
        Check.refused("comesTo(0, -1)", Check.ARGUMENT, () -> x.comesTo(0, -1));
        Check.refused("comesTo(0, 1000)", Check.ARGUMENT, () -> x.comesTo(0, 1000));
    }
}
