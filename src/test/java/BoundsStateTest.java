/** Boundary cases of calls, laws and minutes, and of promises 5 to 9: each sentence has a test of its own. */
public final class BoundsStateTest {
    public static void main(String[] args) {
        speaksWith();
        marriedTo();
        doorOf();
        reached();
        callOnCord();
        callTold();
        callStates();
        callCame();
        likesItself();
        comesToMinutes();
        comesToByLaw();
        lostFromTheBeginning();
        moduloLines();
        withoutSlips();
        minuteModulo60();
        callByNumber();
        keptWithin();
        keptEachTime();
        likesWithout();
        lastsAsLong();
        cordsFreeAtOnce();
        byNumbers();
        comesToItself();
        doors();
        busy();
        cordsReachBoth();
        firstCord();
        elsewhere();
        neitherMarried();
        marriesLaw();
        minuteIsMore();
        Check.quoted(5, 9);
        Check.end();
    }

    private static long minutes(CrossedLines x, int n) {
        return x.minutes(n);
    }

    // ---- promises 5 to 7

    private static void speaksWith() {
        Check.sentence(5, "with whom it speaks (NONE: it isn't BUSY)");
        CrossedLines x = Check.told("lines 8;cord;cord;slips:1;call 7 to 5 at 1 lasts 2;call 0 to 1 at 1 lasts 1;");
        int[][] want = {{-1, -1, -1, -1}, {6, 7, 2, 0}, {6, 7, -1, -1}, {-1, -1, -1, -1}};
        int[] lines = {7, 6, 0, 2};
        for (int minute = 0; minute < 4; minute++) {
            minutes(x, 1);
            for (int i = 0; i < 4; i++) {
                Check.due("line(" + lines[i] + ", 0) behind MINUTE " + minute, x.line(lines[i], 0), want[minute][i]);
            }
            Check.due("the one that it is to, but didn't come to", x.line(5, 0), -1);
        }
        CrossedLines y = Check.told("lines 2;cord;call 1 to 0 at 0 lasts 9;");
        minutes(y, 1);
        Check.due("line(0, 0)", y.line(0, 0), 1);
        y.pull(0);
        Check.due("pulled: line(0, 0)", y.line(0, 0), -1);
        Check.due("pulled: line(1, 0)", y.line(1, 0), -1);
    }

    private static void marriedTo() {
        Check.sentence(5, "1: to whom it is MARRIED (NONE)");
        CrossedLines x = Check.told("lines 8;cord;slips:0-1;marries:1=1;call 7 to 1 at 0 lasts 1;");
        for (int l = 0; l < 8; l++) {
            Check.due("line(" + l + ", 1) at first", x.line(l, 1), -1);
        }
        minutes(x, 9);
        for (int l = 0; l < 8; l++) {
            Check.due("line(" + l + ", 1)", x.line(l, 1), l == 0 ? 7 : l == 7 ? 0 : -1);
        }
    }

    private static void doorOf() {
        Check.sentence(5, "2: 1 if its DOOR is shut, else 0.");
        CrossedLines x = Check.told("lines 8;");
        x.door(7);
        x.door(0);
        x.door(0);
        x.door(0);
        for (int l = 0; l < 8; l++) {
            Check.due("line(" + l + ", 2)", x.line(l, 2), l == 0 || l == 7 ? 1 : 0);
        }
    }

    private static void reached() {
        Check.sentence(6, "LINES it reaches, as bits");
        CrossedLines x = Check.told("lines 8;cord;cord 7;cord 0 2;");
        Check.due("cord(0, 0)", x.cord(0, 0), 255);
        Check.due("cord(1, 0)", x.cord(1, 0), 128);
        Check.due("cord(2, 0)", x.cord(2, 0), 5);
        Check.due("of 2 lines", Check.told("lines 2;cord;").cord(0, 0), 3);
    }

    private static void callOnCord() {
        Check.sentence(6, "the CALL on it (NONE: it is free)");
        CrossedLines x = Check.told("lines 6;cord 4 5;cord;cord;call 0 to 1 at 1 lasts 1;call 2 to 3 at 1 lasts 2;"
                + "call 4 to 5 at 2 lasts 9;");
        int[][] want = {{-1, -1, -1}, {-1, 0, 1}, {2, -1, 1}, {2, -1, -1}};
        for (int minute = 0; minute < 4; minute++) {
            minutes(x, 1);
            for (int k = 0; k < 3; k++) {
                Check.due("cord(" + k + ", 1) behind MINUTE " + minute, x.cord(k, 1), want[minute][k]);
            }
        }
        x.pull(2);
        Check.due("pulled: cord(0, 1)", x.cord(0, 1), -1);
    }

    private static void callTold() {
        Check.sentence(7, "what 0: from, 1: to, 2: its MINUTE, 3: how long it lasts");
        CrossedLines x = Check.told("lines 8;call 7 to 0 at 999 lasts 99;call 0 to 7 at 0 lasts 1;");
        int[][] want = {{7, 0, 999, 99, 0, -1, -1}, {0, 7, 0, 1, 0, -1, -1}};
        for (int c = 0; c < 2; c++) {
            for (int what = 0; what < 7; what++) {
                Check.due("call(" + c + ", " + what + ")", x.call(c, what), want[c][what]);
            }
        }
    }

    private static void callStates() {
        Check.sentence(7, "4: 0 to come, 1 ON, 2 OVER, 3 LOST");
        CrossedLines x = Check.told("lines 4;cord;call 0 to 1 at 5 lasts 2;call 2 to 3 at 5 lasts 1;minute 4;");
        int[][] want = {{0, 0}, {1, 3}, {1, 3}, {2, 3}, {2, 3}};
        for (int i = 0; i < want.length; i++) {
            minutes(x, 1);
            Check.due("call(0, 4) behind MINUTE " + (4 + i), x.call(0, 4), want[i][0]);
            Check.due("call(1, 4) behind MINUTE " + (4 + i), x.call(1, 4), want[i][1]);
            for (int state = 0; state < 4; state++) {
                int many = (want[i][0] == state ? 1 : 0) + (want[i][1] == state ? 1 : 0);
                Check.due("count(" + (4 + state) + ")", x.count(4 + state), many);
            }
        }
    }

    private static void callCame() {
        Check.sentence(7, "5: the LINE it came to (NONE: it wasn't ON), 6: its CORD (NONE likewise)");
        CrossedLines x = Check.told("lines 4;cord 0 1;cord;slips:3;call 3 to 1 at 1 lasts 1;call 2 to 1 at 1 lasts 1;"
                + "call 1 to 2 at 2 lasts 5;");
        int[][] want = {{-1, -1, -1, -1}, {0, 1, -1, -1}, {0, 1, -1, -1}};
        for (int i = 0; i < want.length; i++) {
            minutes(x, 1);
            Check.due("call(0, 5)", x.call(0, 5), want[i][0]);
            Check.due("call(0, 6)", x.call(0, 6), want[i][1]);
            Check.due("call(1, 5), a lost one", x.call(1, 5), want[i][2]);
            Check.due("call(1, 6), a lost one", x.call(1, 6), want[i][3]);
        }
        Check.due("call(2, 5), which came to itself", x.call(2, 5), -1);
        CrossedLines y = Check.told("lines 4;cord;call 3 to 1 at 0 lasts 9;call 0 to 1 at 0 lasts 1;minute 0;");
        minutes(y, 1);
        y.pull(0);
        Check.due("pulled: call(0, 5)", y.call(0, 5), 1);
        Check.due("pulled: call(0, 6)", y.call(0, 6), 0);
    }

    // ---- promises 8 and 9

    private static void likesItself() {
        Check.sentence(8, "How much a LINE likes another one (or itself).");
        CrossedLines x = Check.told("lines 8;likes:who*10+whom;");
        for (int l = 0; l < 8; l++) {
            for (int m = 0; m < 8; m++) {
                Check.due("likes(" + l + ", " + m + ")", x.likes(l, m), 10 * l + m);
            }
        }
    }

    private static void comesToMinutes() {
        Check.sentence(9, "in n MINUTES (0 to 999)");
        CrossedLines x = Check.told("lines 8;call 0 to 1 at 0 lasts 1;slips:minute;minute 999;");
        minutes(x, 99);
        Check.due("comesTo(0, 0) at 1098", x.comesTo(0, 0), (1 + 1098 % 60) % 8);
        Check.due("comesTo(0, 1) at 1098", x.comesTo(0, 1), (1 + 1099 % 60) % 8);
        Check.due("comesTo(0, 998) at 1098", x.comesTo(0, 998), (1 + 2096 % 60) % 8);
        Check.due("comesTo(0, 999) at 1098", x.comesTo(0, 999), (1 + 2097 % 60) % 8);
        Check.refused("comesTo(0, 1000)", Check.ARGUMENT, () -> x.comesTo(0, 1000));
        Check.refused("comesTo(0, -1)", Check.ARGUMENT, () -> x.comesTo(0, -1));
    }

    private static void comesToByLaw() {
        Check.sentence(9, "The LINE to which a CALL would come");
        CrossedLines x = Check.told("lines 4;cord;slips:minute*call;call 0 to 1 at 0 lasts 9;call 2 to 0 at 0 lasts 1;"
                + "call 3 to 2 at 20 lasts 1;minute 0;");
        minutes(x, 1);
        Check.due("it is on", x.call(0, 4), 1);
        Check.due("it is lost", x.call(1, 4), 3);
        x.door(1);
        x.door(3);
        for (int n = 0; n < 9; n++) {
            Check.due("one that is on, in " + n, x.comesTo(0, n), 1);
            Check.due("one that is lost, in " + n, x.comesTo(1, n), (1 + n) % 4);
            Check.due("one to come, in " + n + ", be it itself or shut", x.comesTo(2, n), (2 + 2 * (1 + n)) % 4);
        }
        Check.due("nothing goes by", x.count(9), 1);
        Check.sentence(0, "from, to: LINES, minute: MINUTE modulo 60, call: its number");
        String[] laws = {"from", "to", "minute", "call", "from*2+to", "call*3-from"};
        int[] slips = {6, 4, 2, 1, 16, -3};
        for (int i = 0; i < laws.length; i++) {
            CrossedLines y = Check.told("lines 7;slips:" + laws[i] + ";call 0 to 1 at 0 lasts 1;call 6 to 4 at 65 lasts 3;minute 60;");
            Check.due("slips:" + laws[i], y.comesTo(1, 2), Math.floorMod(4 + slips[i], 7));
        }
    }

    // ---- terms: calls and laws

    private static void lostFromTheBeginning() {
        Check.sentence(0, "one whose MINUTE is ahead of the first one is LOST from the beginning on");
        for (int first : new int[] {1, 500, 999}) {
            CrossedLines x = Check.told("lines 2;cord;call 0 to 1 at 0 lasts 99;call 0 to 1 at " + (first - 1)
                    + " lasts 99;call 0 to 1 at " + first + " lasts 1;minute " + first + ";");
            Check.due("at 0", x.call(0, 4), 3);
            Check.due("one minute ahead", x.call(1, 4), 3);
            Check.due("in the first one", x.call(2, 4), 0);
            Check.due("count(7)", x.count(7), 2);
            Check.due("they aren't lost once more", x.minutes(1), 0);
            Check.due("it is on", x.call(2, 4), 1);
        }
        Check.due("none without minute", Check.told("lines 2;call 0 to 1 at 0 lasts 1;").count(7), 0);
    }

    private static int comes(int lines, int to, String slips) {
        int from = to == 0 ? 1 : 0;
        return Check.told("lines " + lines + ";slips:" + slips + ";call " + from + " to " + to + " at 0 lasts 1;").comesTo(0, 0);
    }

    private static void moduloLines() {
        Check.sentence(0, "It COMES TO the LINE it is to and a SLIP further, modulo LINES");
        for (int lines = 2; lines <= 8; lines++) {
            int last = lines - 1;
            Check.due("the last and 1 further", comes(lines, last, "1"), 0);
            Check.due("0 and 1 back", comes(lines, 0, "0-1"), last);
            Check.due("all round", comes(lines, last, String.valueOf(lines)), last);
            Check.due("all round, back", comes(lines, 0, "0-" + lines), 0);
            Check.due("all round but one", comes(lines, 0, String.valueOf(last)), last);
            Check.due("all round and one back", comes(lines, last, "0-" + lines + "-1"), last - 1);
        }
        Check.sentence(0, "its result modulo LINES, from 0 on");
        for (int lines = 2; lines <= 8; lines++) {
            Check.due("a million", comes(lines, 1, "999*999*999"), (1 + 1000000 % lines) % lines);
            Check.due("a million back", comes(lines, 1, "0-999*999*999"), Math.floorMod(1 - 1000000, lines));
        }
    }

    private static void withoutSlips() {
        Check.sentence(0, "by the law slips (without one: 0;");
        CrossedLines x = Check.told("lines 8;likes:5;marries:1=1;call 0 to 7 at 0 lasts 1;call 7 to 0 at 0 lasts 1;");
        for (int n : new int[] {0, 1, 999}) {
            Check.due("to 7 in " + n, x.comesTo(0, n), 7);
            Check.due("to 0 in " + n, x.comesTo(1, n), 0);
        }
    }

    private static void minuteModulo60() {
        Check.sentence(0, "from, to: LINES, minute: MINUTE modulo 60, call: its number");
        CrossedLines x = Check.told("lines 7;slips:minute;call 0 to 1 at 0 lasts 1;");
        int[] minutes = {0, 1, 58, 59, 60, 61, 119, 120, 121, 959, 960, 999};
        for (int n : minutes) {
            Check.due("comesTo(0, " + n + ")", x.comesTo(0, n), (1 + n % 60) % 7);
        }
        CrossedLines y = Check.told("lines 4;cord;slips:1;marries:minute=0;call 0 to 1 at 59 lasts 1;call 0 to 1 at 60 lasts 1;"
                + "minute 59;");
        Check.due("not in 59", y.weddings(1), 0);
        Check.due("in 60, as in 0", y.weddings(2), 1);
        CrossedLines z = Check.told("lines 4;cord;slips:1;marries:minute=59;call 0 to 1 at 59 lasts 1;minute 59;");
        Check.due("in 59", z.weddings(1), 1);
        Check.due("from and to", Check.told("lines 8;slips:from*2+to*3;call 1 to 2 at 0 lasts 1;").comesTo(0, 0), 2);
    }

    private static void callByNumber() {
        Check.sentence(0, "call: its number; each + - *");
        StringBuilder text = new StringBuilder("lines 8;slips:call;marries:call=9;cord;");
        for (int c = 0; c < 10; c++) {
            text.append("call 0 to 1 at ").append(c).append(" lasts 1;");
        }
        CrossedLines x = Check.told(text.toString());
        for (int c = 0; c < 10; c++) {
            Check.due("comesTo(" + c + ", 0)", x.comesTo(c, 0), (1 + c) % 8);
        }
        Check.due("nobody by 0 to 8", x.weddings(9), 0);
        Check.due("by 9", x.weddings(10), 1);
        CrossedLines y = Check.told("lines 8;slips:call;call 0 to 1 at 0 lasts 1;");
        y.dial(0, 1, 1);
        Check.due("a dialled one", y.comesTo(1, 0), 2);
    }

    private static int liking(String law) {
        return Check.told("lines 2;likes:" + law + ";").likes(0, 1);
    }

    private static void keptWithin() {
        Check.sentence(0, "each + - * kept from -1,000,000 to 1,000,000");
        String million = "(999+1)*(999+1)";
        Check.due("a million by *", liking(million), 1000000);
        Check.due("less 1", liking(million + "-1"), 999999);
        Check.due("one more by +", liking(million + "+1"), 1000000);
        Check.due("one more by -", liking(million + "-(0-1)"), 1000000);
        Check.due("more by *", liking("(999+1)*(999+2)"), 1000000);
        Check.due("just below by *", liking("999*999+999+999"), 999999);
        Check.due("a million by +", liking("999*999+999+999+1"), 1000000);
        Check.due("minus a million by -", liking("0-" + million), -1000000);
        Check.due("one less by -", liking("0-" + million + "-1"), -1000000);
        Check.due("one less by +", liking("0-" + million + "+(0-1)"), -1000000);
        Check.due("minus a million and 1", liking("0-" + million + "+1"), -999999);
        Check.due("minus a million by *", liking("(0-999-1)*(999+1)"), -1000000);
        Check.due("less by *", liking("(0-999-1)*(999+2)"), -1000000);
        Check.due("just above by *", liking("0-999*999-999-999"), -999999);
        Check.due("far beyond an int by *", liking("(" + million + ")*(" + million + ")"), 1000000);
        Check.due("far below an int by *", liking("(0-" + million + ")*(" + million + ")"), -1000000);
        Check.due("two far below by *", liking("(0-" + million + ")*(0-" + million + ")"), 1000000);
    }

    private static void keptEachTime() {
        Check.sentence(0, "each + - * kept");
        String million = "(999+1)*(999+1)";
        Check.due("kept, then less", liking(million + "+9-9"), 999991);
        Check.due("kept below, then more", liking("0-" + million + "-9+9"), -999991);
        Check.due("kept, then times 0", liking("999*999*999*0"), 0);
        Check.due("kept, then taken", liking("999*999*999-999*999*999"), 0);
        Check.sentence(0, "likewise kept");
        Check.due("likes", liking("999*999*999"), 1000000);
        Check.sentence(0, "each + - * kept");
        Check.due("slips", comes(8, 1, million + "+1-" + million), 1);
        CrossedLines x = Check.told("lines 3;cord;slips:1;marries:" + million + "+1=" + million + ";call 0 to 1 at 0 lasts 1;");
        Check.due("marries", x.weddings(1), 1);
    }

    private static void likesWithout() {
        Check.sentence(0, "One LIKES another one so much as the law likes tells (without one: 0): who, whom: LINES");
        CrossedLines x = Check.told("lines 8;slips:7;marries:1=1;");
        for (int l = 0; l < 8; l++) {
            Check.due("likes(" + l + ", 7)", x.likes(l, 7), 0);
            Check.due("likes(7, " + l + ")", x.likes(7, l), 0);
        }
    }

    // ---- terms: a minute

    private static void lastsAsLong() {
        Check.sentence(0, "CALLS that are ON and have lasted as long as they last are OVER");
        for (int lasts : new int[] {1, 2, 98, 99}) {
            CrossedLines x = Check.told("lines 2;cord;call 0 to 1 at 3 lasts " + lasts + ";minute 3;");
            minutes(x, 1);
            Check.due("on in its minute", x.call(0, 4), 1);
            if (lasts > 1) {
                minutes(x, lasts - 1);
            }
            Check.due("on in its last minute of " + lasts, x.call(0, 4), 1);
            minutes(x, 1);
            Check.due("over in the next one", x.call(0, 4), 2);
        }
    }

    private static void cordsFreeAtOnce() {
        Check.sentence(0, "are OVER, their CORDS free. (2)");
        CrossedLines x = Check.told("lines 4;cord;call 0 to 1 at 1 lasts 2;call 2 to 3 at 2 lasts 1;call 2 to 3 at 3 lasts 1;"
                + "call 0 to 1 at 4 lasts 1;");
        minutes(x, 9);
        Check.due("the cord is still in use", x.call(1, 4), 3);
        Check.due("the cord is free in the very minute", x.call(2, 4), 2);
        Check.due("and again", x.call(3, 4), 2);
        CrossedLines y = Check.told("lines 4;cord;cord;call 0 to 1 at 1 lasts 2;call 1 to 2 at 2 lasts 1;call 1 to 2 at 3 lasts 1;");
        minutes(y, 9);
        Check.due("the line is still busy", y.call(1, 4), 3);
        Check.due("the line is free in the very minute", y.call(2, 4), 2);
    }

    private static void byNumbers() {
        Check.sentence(0, "CALLS to come whose MINUTE this is, by numbers");
        CrossedLines x = Check.told("lines 4;cord;call 2 to 3 at 5 lasts 1;call 0 to 1 at 5 lasts 1;call 0 to 1 at 4 lasts 1;");
        minutes(x, 6);
        Check.due("0 has the cord", x.call(0, 4), 1);
        Check.due("1 has none", x.call(1, 4), 3);
        Check.due("2 was in an earlier minute", x.call(2, 4), 2);
        CrossedLines y = Check.told("lines 4;cord;call 2 to 3 at 1 lasts 1;");
        minutes(y, 1);
        y.dial(0, 1, 1);
        minutes(y, 1);
        Check.due("a dialled one comes behind those of the text", y.call(1, 4), 3);
        Check.due("one of the text", y.call(0, 4), 1);
    }

    private static void comesToItself() {
        Check.sentence(0, "it is LOST, if it comes to the LINE it is from");
        CrossedLines x = Check.told("lines 8;cord;cord;cord;slips:minute;call 7 to 0 at 7 lasts 1;call 7 to 0 at 6 lasts 1;");
        Check.due("minutes(6)", minutes(x, 6), 0);
        minutes(x, 2);
        Check.due("to 7, which is itself", x.call(0, 4), 3);
        Check.due("to 6", x.call(1, 4), 2);
    }

    private static void doors() {
        Check.sentence(0, "one of both LINES has its door shut");
        String text = "lines 4;cord;slips:1;call 0 to 1 at 0 lasts 1;";
        int[] want = {1, 0, 1, 0};
        for (int l = 0; l < 4; l++) {
            CrossedLines x = Check.told(text);
            x.door(l);
            Check.due("door " + l + " is shut: lost", minutes(x, 1), want[l]);
        }
        CrossedLines x = Check.told(text);
        x.door(0);
        x.door(0);
        Check.due("opened again", minutes(x, 1), 0);
        Check.sentence(0, "A DOOR is shut, or opened (a CALL that is ON there stays).");
        CrossedLines y = Check.told("lines 4;cord;call 0 to 1 at 0 lasts 3;");
        minutes(y, 1);
        y.door(0);
        y.door(1);
        minutes(y, 2);
        Check.due("it stays to its last minute", y.call(0, 4), 1);
        minutes(y, 1);
        Check.due("and is over as told", y.call(0, 4), 2);
    }

    private static void busy() {
        Check.sentence(0, "or is BUSY (in a CALL that is ON)");
        String[] second = {"0 to 3", "3 to 0", "1 to 3", "3 to 1", "2 to 3", "3 to 2"};
        int[] want = {3, 3, 3, 3, 1, 1};
        for (int i = 0; i < second.length; i++) {
            CrossedLines x = Check.told("lines 4;cord;cord;cord;call 0 to 1 at 0 lasts 2;call " + second[i] + " at 1 lasts 1;");
            minutes(x, 2);
            Check.due("call " + second[i] + " while 0 and 1 are busy", x.call(1, 4), want[i]);
        }
        String[] later = {"3 to 4", "4 to 3", "1 to 4", "4 to 1", "2 to 4", "0 to 2"};
        for (int i = 0; i < later.length; i++) {
            CrossedLines y = Check.told("lines 5;cord;cord;cord;call 3 to 1 at 1 lasts 3;call " + later[i] + " at 3 lasts 1;minute 1;");
            y.minutes(1);
            y.minutes(1);
            y.minutes(1);
            Check.due("call " + later[i] + " while 3 and 1 are busy since an earlier deed", y.call(1, 4), want[i]);
        }
        CrossedLines slipped = Check.told("lines 4;cord;cord;slips:2-2*call;call 0 to 1 at 0 lasts 2;call 1 to 2 at 1 lasts 1;"
                + "call 3 to 1 at 1 lasts 1;");
        minutes(slipped, 2);
        Check.due("the one that it came to is busy, not the one that it is to", slipped.call(1, 4), 1);
        CrossedLines lost = Check.told("lines 4;cord;call 0 to 1 at 0 lasts 2;call 2 to 0 at 0 lasts 2;call 2 to 3 at 2 lasts 1;");
        minutes(lost, 3);
        Check.due("a lost one makes nobody busy", lost.call(2, 4), 1);
    }

    private static void cordsReachBoth() {
        Check.sentence(0, "or no free CORD reaches both");
        String call = "call 0 to 1 at 0 lasts 1;";
        Check.due("no cord at all", Check.told("lines 3;" + call).minutes(1), 1);
        Check.due("one to from alone", Check.told("lines 3;cord 0;" + call).minutes(1), 1);
        Check.due("one to from, one to to", Check.told("lines 3;cord 0 2;cord 1 2;" + call).minutes(1), 1);
        Check.due("one to both", Check.told("lines 3;cord 0 2;cord 1 2;cord 1 0;" + call).minutes(1), 0);
        CrossedLines x = Check.told("lines 4;cord 0 1 2 3;cord 2 3;call 0 to 2 at 0 lasts 2;call 1 to 3 at 1 lasts 1;");
        minutes(x, 2);
        Check.due("the one that is free reaches but one of them", x.call(1, 4), 3);
    }

    private static void firstCord() {
        Check.sentence(0, "else it is ON, by the first such CORD");
        CrossedLines x = Check.told("lines 6;cord 0 1;cord;cord;call 2 to 3 at 0 lasts 1;call 0 to 1 at 0 lasts 1;"
                + "call 4 to 5 at 0 lasts 1;call 0 to 1 at 1 lasts 1;call 2 to 3 at 1 lasts 1;");
        minutes(x, 2);
        int[] want = {1, 0, 2, 0, 1};
        for (int c = 0; c < want.length; c++) {
            Check.due("call(" + c + ", 6)", x.call(c, 6), want[c]);
        }
    }

    private static void elsewhere() {
        Check.sentence(0, "If it came elsewhere than to the LINE it is to");
        String text = "lines 4;cord;marries:1=1;call 0 to 1 at 0 lasts 1;";
        Check.due("without slips", Check.told(text).weddings(1), 0);
        Check.due("a slip of 0", Check.told(text + "slips:0;").weddings(1), 0);
        Check.due("a slip all round", Check.told(text + "slips:4;").weddings(1), 0);
        Check.due("a slip by 1", Check.told(text + "slips:1;").weddings(1), 1);
        Check.due("a slip to itself", Check.told(text + "slips:3;").weddings(1), 0);
        CrossedLines lost = Check.told(text + "slips:1;");
        lost.door(2);
        Check.due("one that is lost", lost.weddings(1), 0);
    }

    private static void neitherMarried() {
        Check.sentence(0, "neither LINE is married");
        CrossedLines x = Check.told("lines 6;cord;slips:1;marries:1=1;call 0 to 1 at 0 lasts 1;call 0 to 3 at 1 lasts 1;"
                + "call 5 to 1 at 2 lasts 1;call 5 to 2 at 3 lasts 1;call 2 to 3 at 4 lasts 1;");
        int[] twos = {1, 1, 1, 2, 2};
        for (int i = 0; i < twos.length; i++) {
            minutes(x, 1);
            Check.due("count(8) behind MINUTE " + i, x.count(8), twos[i]);
        }
        int[] with = {2, -1, 0, 5, -1, 3};
        for (int l = 0; l < 6; l++) {
            Check.due("line(" + l + ", 1)", x.line(l, 1), with[l]);
        }
    }

    private static void marriesLaw() {
        Check.sentence(0, "the law marries holds (without one: never)");
        String text = "lines 4;cord;slips:1;likes:who*10+whom;call 0 to 1 at 7 lasts 1;minute 7;";
        Check.due("without one", Check.told(text).weddings(1), 0);
        Check.due("it holds", Check.told(text + "marries:1=1;").weddings(1), 1);
        Check.due("it doesn't", Check.told(text + "marries:1=2;").weddings(1), 0);
        Check.sentence(0, "from, to: its LINE, the one it came to, minute, call as above, "
                + "likes: how much the one it is from likes the other, liked: is liked by it.");
        String[] holds = {"from=0", "to=2", "minute=7", "call=0", "likes=2", "liked=20"};
        for (String law : holds) {
            Check.due(law, Check.told(text + "marries:" + law + ";").weddings(1), 1);
            Check.due("not " + law, Check.told(text + "marries:not " + law + ";").weddings(1), 0);
        }
        Check.sentence(0, "one of = < >");
        String[] edges = {"2=2", "1<2", "2>1", "not 1=2", "not 2<2", "not 2>2", "not 2<1", "not 1>2", "1=1 or 1=2",
            "1=2 or 1=1", "not[1=2 or 2=1]", "not[1=1 and 1=2]", "1=1 and 2=2", "1=2 and 1=2 or 1=1", "1=1 or 1=2 and 1=2",
            "not 1=2 and 1=1", "not not 1=1", "not[1=2 and 1=1]", "not[1=1 and 1=2 and 1=1]", "1=2 or 1=2 or 1=1", "1=1 or 1=2 or 1=2",
            "not[[1=1 or 1=1] and 1=2]", "[1=1 or 1=2] and [1=2 or 1=1]", "not[1=2 or 1=1 and 1=2]"};
        for (String law : edges) {
            Check.due(law, Check.told(text + "marries:" + law + ";").weddings(1), 1);
            Check.due("not[" + law + "]", Check.told(text + "marries:not[" + law + "];").weddings(1), 0);
        }
    }

    private static void minuteIsMore() {
        Check.sentence(0, "(3) MINUTE is 1 more.");
        CrossedLines x = Check.told("lines 2;minute 999;");
        minutes(x, 1);
        Check.due("beyond 999", x.count(9), 1000);
        minutes(x, 99);
        Check.due("99 more", x.count(9), 1099);
        x.dial(0, 1, 1);
        Check.due("a call dialled there", x.call(0, 2), 1099);
        Check.due("is lost there", minutes(x, 1), 1);
    }
}
