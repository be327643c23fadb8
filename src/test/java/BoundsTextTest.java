import java.util.ArrayList;
import java.util.List;

/** Boundary cases of the text and of promises 1 to 4: each sentence that names one has a test of its own. */
public final class BoundsTextTest {
    private static final String SIGNS = ";:+-*()[]=<>";
    private static final String WHOLE = "lines 4 ;\ncord 0 3;cord ; call 0 to 3 at 999 lasts 99;minute 007;"
            + "slips : (from + to) * minute - call ;likes:who*(whom+1)-2;"
            + "marries: not likes = liked and [ from < to or minute > call ];";

    public static void main(String[] args) {
        newObject();
        tapeAndTrays();
        twentyBytes();
        highestFirst();
        full();
        firstBytes();
        tapeIsEmptyThen();
        afresh();
        nothingIsLeft();
        traysAndImagesStay();
        nothingOfAFault();
        howManyLines();
        lessTheFault();
        faultKept();
        faultOthers();
        atMostBytes();
        bytesThatBegin();
        longTokens();
        digits();
        blanks();
        ends();
        linesOnce();
        wordsOfLaws();
        firstFault();
        leastKind();
        numbersOfLines();
        numbersOfCords();
        numbersOfCalls();
        numbersOfMinutes();
        anyNumberInLaws();
        cordsAndCallsFull();
        sixWithin();
        sevenWithin();
        sideBySide();
        laterStrike();
        numberedFromZero();
        Check.quoted(0, 4);
        Check.end();
    }

    // ---- promise 1

    private static void newObject() {
        Check.sentence(0, "(without one: 2 LINES, no CORDS, no CALLS)");
        int[] counts = {0, 2, 0, 0, 0, 0, 0, 0, 0, 0};
        CrossedLines x = new CrossedLines();
        for (int what = 0; what < counts.length; what++) {
            Check.due("count(" + what + ")", x.count(what), counts[what]);
        }
        Check.sentence(1, "2 LINES, no CORDS, no CALLS");
        for (int l = 0; l < 2; l++) {
            Check.due("line(" + l + ", 0)", x.line(l, 0), -1);
            Check.due("line(" + l + ", 1)", x.line(l, 1), -1);
            Check.due("line(" + l + ", 2)", x.line(l, 2), 0);
        }
        Check.refused("line(2, 0)", Check.ELEMENT, () -> x.line(2, 0));
        Check.refused("cord(0, 0)", Check.ELEMENT, () -> x.cord(0, 0));
        Check.refused("call(0, 0)", Check.ELEMENT, () -> x.call(0, 0));
        Check.due("likes(1, 0)", x.likes(1, 0), 0);
    }

    private static void tapeAndTrays() {
        Check.sentence(1, "TRAYS are MISSING; an empty tape.");
        CrossedLines x = new CrossedLines();
        for (int i = 0; i < 4; i++) {
            int tray = i;
            Check.refused("copy(" + i + ")", Check.STATE, () -> x.copy(tray));
        }
        Check.due("count(11)", x.count(11), 0);
        Check.refused("exchange(1)", Check.ARGUMENT, () -> x.exchange(1));
        Check.due("feed", x.feed(0, 0, 0, 0, 0), 20);
    }

    // ---- promise 2

    private static int word(String text) {
        return text.charAt(0) << 24 | text.charAt(1) << 16 | text.charAt(2) << 8 | text.charAt(3);
    }

    private static int feed(CrossedLines x, String twenty) {
        return x.feed(word(twenty), word(twenty.substring(4)), word(twenty.substring(8)), word(twenty.substring(12)),
                word(twenty.substring(16)));
    }

    private static void twentyBytes() {
        Check.sentence(2, "Twenty bytes come behind those on the tape ... how many it has");
        CrossedLines x = new CrossedLines();
        Check.due("the first twenty", feed(x, "lines 3;cord 0;cord;"), 20);
        Check.due("count(11)", x.count(11), 20);
        Check.due("the next twenty", feed(x, "call 0 to 2 at 5     "), 40);
        Check.due("the last twenty", feed(x, " lasts 7;minute 5;   "), 60);
        Check.due("exchange(60)", x.exchange(60), 5);
        Check.due("call(0, 2)", x.call(0, 2), 5);
        Check.due("call(0, 3)", x.call(0, 3), 7);
        Check.due("behind an exchange it begins anew", feed(x, "lines 3;cord 0;cord;"), 20);
        Check.due("exchange(20)", x.exchange(20), 3);
    }

    private static void highestFirst() {
        Check.sentence(2, "the highest of each int first");
        for (int i = 0; i < 20; i++) {
            CrossedLines x = new CrossedLines();
            int[] five = {0x20202020, 0x20202020, 0x20202020, 0x20202020, 0x20202020};
            five[i / 4] ^= 0xa0 << 24 - i % 4 * 8;
            x.feed(five[0], five[1], five[2], five[3], five[4]);
            Check.due("a byte that begins nothing at " + i, x.exchange(20), -11);
            Check.due("its place", x.fault(1), i);
        }
    }

    private static void full() {
        Check.sentence(2, "NONE, and nothing changes, if there would be more than 900.");
        CrossedLines x = new CrossedLines();
        feed(x, "lines 2;            ");
        for (int i = 2; i <= 45; i++) {
            Check.due("feed " + i, feed(x, "                    "), 20 * i);
        }
        Check.due("just 900", x.count(11), 900);
        Check.due("feed 46", feed(x, "????????????????????"), -1);
        Check.due("feed 47", feed(x, "????????????????????"), -1);
        Check.due("still 900", x.count(11), 900);
        Check.due("all 900 as they were", x.exchange(900), 1);
        Check.due("room again", feed(x, "lines 2;            "), 20);
    }

    // ---- promise 3

    private static void firstBytes() {
        Check.sentence(3, "The first n bytes of the tape");
        int[] fault = {2, 2, 2, 2, 2, 2, 2, 2, 0, 2, 2, 2, 2, 0, 2, 2, 2, 2, 2, 3, 3};
        int[] place = {0, 0, 0, 0, 0, 5, 6, 7, -1, 8, 8, 8, 12, -1, 13, 13, 13, 17, 18, 18, 18};
        for (int n = 0; n <= 20; n++) {
            CrossedLines x = new CrossedLines();
            feed(x, "lines 2;cord;cord 7?");
            int lines = n == 8 ? 1 : 2;
            Check.due("exchange(" + n + ")", x.exchange(n), fault[n] == 0 ? lines : -10 - fault[n]);
            Check.due("its fault's place", x.fault(1), place[n]);
        }
    }

    private static void tapeIsEmptyThen() {
        Check.sentence(3, "(which is empty then)");
        for (int n : new int[] {0, 8, 20}) {
            CrossedLines x = new CrossedLines();
            feed(x, "lines 2;cord;cord 7?");
            x.exchange(n);
            Check.due("count(11) behind exchange(" + n + ")", x.count(11), 0);
            Check.refused("exchange(1)", Check.ARGUMENT, () -> x.exchange(1));
            Check.due("exchange(0), nothing of an empty tape", x.exchange(0), -12);
            Check.due("feed", feed(x, "lines 2;            "), 20);
            Check.due("exchange of what was fed then", x.exchange(20), 1);
        }
    }

    private static void afresh() {
        Check.sentence(3, "are THE EXCHANGE, nobody MARRIED, all DOORS open, no DEEDS");
        String text = "lines 3;cord;slips:1;marries:1=1;call 0 to 1 at 0 lasts 5;";
        CrossedLines x = Check.told(text);
        x.minutes(1);
        for (int l = 0; l < 3; l++) {
            x.door(l);
        }
        Check.due("married ahead of it", x.count(8), 1);
        Check.exchange(x, text);
        int[] counts = {5, 3, 1, 1, 1, 0, 0, 0, 0, 0, 0, 0};
        for (int what = 0; what < counts.length; what++) {
            Check.due("count(" + what + ")", x.count(what), counts[what]);
        }
        for (int l = 0; l < 3; l++) {
            Check.due("line(" + l + ", 0)", x.line(l, 0), -1);
            Check.due("line(" + l + ", 1)", x.line(l, 1), -1);
            Check.due("line(" + l + ", 2)", x.line(l, 2), 0);
        }
        Check.refused("undo(1)", Check.ARGUMENT, () -> x.undo(1));
    }

    private static void nothingIsLeft() {
        Check.sentence(0, "in which MINUTE, 0 to 999");
        Check.sentence(0, "minute: the first one, 0 to 999 (0).");
        CrossedLines x = Check.told("lines 2;minute 77;");
        Check.due("minute of the first text", x.count(9), 77);
        Check.exchange(x, "lines 2;cord;call 0 to 1 at 3 lasts 1;");
        Check.due("minute of a text without one", x.count(9), 0);
        Check.due("its call", x.call(0, 4), 0);
        Twins.alike("an exchange behind another one", y -> {
            Check.exchange(y, "lines 8;cord 1;cord 2;cord 3;slips:9;likes:who;marries:1=1;call 2 to 3 at 5 lasts 6;"
                    + "call 4 to 5 at 7 lasts 8;minute 6;");
            y.minutes(3);
            Check.exchange(y, "lines 3;cord;");
        }, y -> Check.exchange(y, "lines 3;cord;"));
    }

    private static void traysAndImagesStay() {
        Check.sentence(3, "are THE EXCHANGE, nobody MARRIED, all DOORS open, no DEEDS");
        CrossedLines x = Check.told("lines 3;cord;likes:7;");
        x.image(1);
        Check.tray(x, 0, -1, -1);
        Check.tray(x, 3, 0, 1, 2);
        Check.exchange(x, "lines 4;cord;call 0 to 1 at 0 lasts 1;");
        Check.due("a tray as it was", x.perform(0), 2);
        Check.due("another one as it was", x.rules(3), 4);
        Check.refused("one that was missing", Check.STATE, () -> x.perform(1));
        x.restore(1);
        Check.due("an image as it was", x.likes(0, 1), 7);
        Check.refused("one that wasn't made", Check.STATE, () -> {
            x.restore(0);
            return 0;
        });
    }

    private static void nothingOfAFault() {
        Check.sentence(3, "-10 less the FAULT (all else stays)");
        String[] spoilt = {"lines 8;cord 1;cord 2;cord 3;minute 500;slips:9;likes:who+5;marries:1=1;call 2 to 3 at 5 lasts 6;x",
                "lines 7;minute 9;slips:1+", "lines 7;likes:9;likes:(who", "lines 7;marries:1=", "lines 7;call 5 to 6 at 9"};
        for (String text : spoilt) {
            Twins.alike("a good text behind " + text, y -> {
                Check.exchange(y, text);
                Check.exchange(y, "lines 3;cord;call 0 to 1 at 0 lasts 2;");
            }, y -> Check.exchange(y, "lines 3;cord;call 0 to 1 at 0 lasts 2;"));
        }
    }

    private static void howManyLines() {
        Check.sentence(3, "how many LINES of text (lines, too)");
        StringBuilder text = new StringBuilder("lines 2;");
        for (int many = 1; many < 100; many++) {
            CrossedLines x = new CrossedLines();
            Check.due(many + " lines of text", Check.exchange(x, text.toString()), many);
            Check.due("count(0)", x.count(0), many);
            text.append("minute 1\n;");
            if (text.length() > 900) {
                break;
            }
        }
        Check.due("of each sort", Check.exchange(new CrossedLines(), WHOLE), 8);
    }

    private static void lessTheFault() {
        Check.sentence(3, "-10 less the FAULT (all else stays)");
        String[] bad = {"lines 2;?", "lines 2", "lines 9;", "lines 2;cord;cord;cord;cord;"};
        int[] places = {8, 7, 6, 23};
        for (int kind = 1; kind <= 4; kind++) {
            String text = bad[kind - 1];
            CrossedLines x = new CrossedLines();
            Twins.rich(x);
            x.exchange(0);
            Check.due(text, Check.exchange(x, text), -10 - kind);
            Check.due("fault(0)", x.fault(0), kind);
            Check.due("fault(1)", x.fault(1), places[kind - 1]);
            Twins.alike("all else behind " + text, y -> {
                Twins.rich(y);
                y.exchange(0);
                Check.exchange(y, text);
                y.exchange(0);
            }, y -> {
                Twins.rich(y);
                y.exchange(0);
            });
            CrossedLines z = Check.told("lines 3;cord;slips:1;marries:1=1;call 0 to 1 at 0 lasts 5;");
            z.minutes(1);
            z.door(2);
            Check.exchange(z, text);
            int[] counts = {5, 3, 1, 1, 0, 1, 0, 0, 1, 1, 2, 0};
            for (int what = 0; what < counts.length; what++) {
                Check.due("behind " + text + " count(" + what + ")", z.count(what), counts[what]);
            }
            Check.due("the door is shut", z.line(2, 2), 1);
            Check.due("undo(2)", z.undo(2), 0);
            Check.due("minute", z.count(9), 0);
        }
    }

    // ---- promise 4

    private static void faultKept() {
        Check.sentence(4, "Of the latest exchange() that threw nothing, what 0: the FAULT (0 without, and at first)");
        CrossedLines x = new CrossedLines();
        Check.due("at first: fault(0)", x.fault(0), 0);
        Check.due("at first: fault(1)", x.fault(1), -1);
        Check.exchange(x, "lines 2;cord 2;");
        Check.refused("exchange(1)", Check.ARGUMENT, () -> x.exchange(1));
        Check.due("behind a throw: fault(0)", x.fault(0), 3);
        Check.due("behind a throw: fault(1)", x.fault(1), 13);
        Check.exchange(x, "lines 2;");
        Check.sentence(4, "1: its place (NONE without)");
        Check.due("without: fault(0)", x.fault(0), 0);
        Check.due("without: fault(1)", x.fault(1), -1);
        Check.refused("exchange(-1)", Check.ARGUMENT, () -> x.exchange(-1));
        Check.due("behind a throw, without", x.fault(0), 0);
        Check.exchange(x, "?");
        Check.due("a place at the very first", x.fault(1), 0);
    }

    private static void faultOthers() {
        Check.sentence(4, "NONE for others.");
        CrossedLines x = new CrossedLines();
        Check.exchange(x, "lines 2;cord 2;");
        for (int what : new int[] {Integer.MIN_VALUE, -1, 2, 3, Integer.MAX_VALUE}) {
            Check.due("fault(" + what + ")", x.fault(what), -1);
        }
    }

    // ---- terms: tokens

    private static String padded(String text, int length) {
        StringBuilder whole = new StringBuilder(text);
        while (whole.length() < length) {
            whole.append(' ');
        }
        return whole.toString();
    }

    private static void atMostBytes() {
        Check.sentence(0, "a TEXT of at most 900 bytes");
        Check.good(padded("lines 2;", 899) + "\n", 1);
        Check.good(padded("lines 2;", 895) + "cord;", 2);
        Check.good(padded("", 892) + "lines 2;", 1);
        Check.fault(padded("lines 2;", 899) + "?", 1, 899);
        Check.fault(padded("lines 2;", 896) + "cord", 2, 900);
        StringBuilder sum = new StringBuilder("lines 8;call 0 to 1 at 0 lasts 1;slips:1");
        int ones = 1;
        while (sum.length() < 898) {
            sum.append("+1");
            ones++;
        }
        CrossedLines x = Check.told(sum.append(" ;").toString());
        Check.due("a sum of 900 bytes", x.comesTo(0, 0), (1 + ones) % 8);
    }

    private static void bytesThatBegin() {
        Check.sentence(0, "blanks (10, 32): words (small letters), N (1 to 3 digits), the signs ; : + - * ( ) [ ] = < >.");
        for (int b = 0; b < 256; b++) {
            String text = "lines 2;" + (char) b;
            boolean isToken = b >= 'a' && b <= 'z' || b >= '0' && b <= '9' || b > 0 && SIGNS.indexOf(b) >= 0;
            if (b == 10 || b == 32) {
                Check.good(text, 1);
            } else {
                Check.fault(text, isToken ? 2 : 1, 8);
            }
            String within = "lines" + (char) b + "2;";
            if (b == 10 || b == 32) {
                Check.good(within, 1);
            } else if (b >= 'a' && b <= 'z') {
                Check.fault(within, 2, 0);
            } else if (b >= '0' && b <= '9') {
                checkDigitWithin(within, b == '0');
            } else {
                Check.fault(within, isToken ? 2 : 1, 5);
            }
        }
    }

    /** A blank's place, taken by a digit: 02 are lines, 12 and more are none. */
    private static void checkDigitWithin(String text, boolean isZero) {
        if (isZero) {
            Check.good(text, 1);
        } else {
            Check.fault(text, 3, 5);
        }
    }

    private static void longTokens() {
        Check.sentence(0, "TOKENS, as long as they go");
        Check.good("lines2;cord0 1;call0to1at2lasts3;minute4;", 4);
        Check.due("cord01 reaches 1 alone", Check.told("lines2;cord01;").cord(0, 0), 2);
        Check.due("cord0 1 reaches both", Check.told("lines2;cord0 1;").cord(0, 0), 3);
        Check.fault("linesx 2;", 2, 0);
        Check.fault("line s 2;", 2, 0);
        Check.fault("lines 2;cordcord;", 2, 8);
        Check.fault("lines 2;marries:not1=1 and1=1 notand 1=1;", 2, 30);
        Check.good("lines 2;marries:not1=1and1=1or[1=1];", 2);
        Check.fault("lines 2;marries:notnot 1=1;", 2, 16);
        Check.fault("lines 22;", 3, 6);
        Check.fault("lines 2 2;", 2, 8);
        Check.fault("lines 2;slips:tofrom;", 2, 14);
    }

    private static void digits() {
        Check.sentence(0, "1 no TOKEN begins so (4 digits and more: at their first).");
        Check.good("lines 2;", 1);
        Check.good("lines 02;", 1);
        Check.good("lines 002;", 1);
        Check.fault("lines 0002;", 1, 6);
        Check.fault("lines 00002;", 1, 6);
        Check.fault("lines 1000000000000000000002;", 1, 6);
        Check.fault("lines 2;minute 1000;", 1, 15);
        Check.good("lines 2;minute 999;slips:999;", 3);
        Check.fault("lines 2;slips:1000;", 1, 14);
        Check.fault("lines 2;slips:1+9999*2;", 1, 16);
        Check.fault("lines 2;cord0001;", 1, 12);
        Check.fault("lines 2;call 0 to 1 at 0000 lasts 1;", 1, 23);
        Check.fault("lines 2;call 0 to 1 at 0 lasts 0001;", 1, 31);
        Check.fault("lines 2;1234", 1, 8);
        Check.fault("lines 2;123", 2, 8);
    }

    private static List<Integer> starts(String text) {
        List<Integer> starts = new ArrayList<>();
        for (int i = 0; i < text.length(); i++) {
            boolean goesOn = i > 0 && sort(text.charAt(i)) == sort(text.charAt(i - 1)) && sort(text.charAt(i)) < 2;
            if (sort(text.charAt(i)) < 3 && !goesOn) {
                starts.add(i);
            }
        }
        return starts;
    }

    private static int sort(char c) {
        return c >= 'a' && c <= 'z' ? 0 : c >= '0' && c <= '9' ? 1 : c == ' ' || c == '\n' ? 3 : 2;
    }

    private static void blanks() {
        Check.sentence(0, "between them blanks (10, 32)");
        Check.good(WHOLE, 8);
        for (int start : starts(WHOLE)) {
            Check.good(WHOLE.substring(0, start) + "\n  \n" + WHOLE.substring(start), 8);
        }
        Check.good("\n\n  lines 2;", 1);
        Check.good("lines 2;  \n", 1);
    }

    private static void ends() {
        Check.sentence(0, "2 it can't stand there (the end: the text's length");
        for (int start : starts(WHOLE)) {
            String cut = WHOLE.substring(0, start);
            if (start == 0 || !cut.trim().endsWith(";")) {
                Check.fault(cut, 2, start);
                Check.fault(cut + "  \n", 2, start + 3);
            } else {
                Check.good(cut, (int) cut.chars().filter(c -> c == ';').count());
            }
        }
        Check.fault("", 2, 0);
        Check.fault("\n", 2, 1);
    }

    private static void linesOnce() {
        Check.sentence(0, "lines must be told first, and once");
        Check.fault("cord;lines 2;", 2, 0);
        Check.fault("minute 1;lines 2;", 2, 0);
        Check.fault(";lines 2;", 2, 0);
        Check.fault("2;", 2, 0);
        Check.fault("lines 2;lines 2;", 2, 8);
        Check.fault("lines 2;cord;minute 4;lines 3;", 2, 22);
        Check.fault("lines;", 2, 5);
        Check.fault("lines 2 3;", 2, 8);
    }

    private static void wordsOfLaws() {
        Check.sentence(0, "a word of another law");
        String[] all = {"from", "to", "minute", "call", "who", "whom", "likes", "liked"};
        String[] laws = {"slips:", "likes:", "marries:1="};
        String[] allowed = {"from to minute call", "who whom", "from to minute call likes liked"};
        for (int law = 0; law < 3; law++) {
            for (String word : all) {
                String ahead = "lines 2;" + laws[law];
                if ((" " + allowed[law] + " ").contains(" " + word + " ")) {
                    Check.good(ahead + word + ";", 2);
                    Check.good(ahead + "1+" + word + "*2;", 2);
                } else {
                    Check.fault(ahead + word + ";", 2, ahead.length());
                    Check.fault(ahead + "(1-" + word + "*2);", 2, ahead.length() + 3);
                }
            }
        }
        String[] others = {"lines", "cord", "slips", "marries", "at", "lasts", "or", "and", "not", "x"};
        for (String word : others) {
            Check.fault("lines 2;slips:" + word + ";", 2, 14);
            Check.fault("lines 2;likes:" + word + ";", 2, 14);
            Check.fault("lines 2;marries:1=" + word + ";", 2, 18);
        }
        Check.fault("lines 2;slips:[1];", 2, 14);
        Check.fault("lines 2;slips:not 1;", 2, 14);
        Check.fault("lines 2;slips:1=1;", 2, 15);
        Check.fault("lines 2;likes:1 or 1;", 2, 16);
        Check.fault("lines 2;marries:1;", 2, 17);
        Check.fault("lines 2;marries:[1=1]=1;", 2, 21);
        Check.fault("lines 2;marries:(1=1);", 2, 18);
    }

    // ---- terms: faults

    private static void firstFault() {
        Check.sentence(0, "FAULTS, the first along the text");
        for (int start : starts(WHOLE)) {
            Check.fault(WHOLE.substring(0, start) + "?" + WHOLE.substring(start), 1, start);
            Check.fault(WHOLE.substring(0, start) + " 1234 ?" + WHOLE.substring(start), 1, start + 1);
            Check.fault(WHOLE.substring(0, start) + " zz?" + WHOLE.substring(start), 2, start + 1);
        }
        Check.fault("lines 2;cord 2;?", 3, 13);
        Check.fault("lines 2;cord ?;cord 2;", 1, 13);
        Check.fault("lines 2;cord;cord;cord;cord;?", 4, 23);
        Check.fault("lines 2;cord;cord;cord 2;cord;", 3, 23);
        Check.fault("lines 9;zz?", 3, 6);
        Check.fault("lines 2;zz;lines 9;", 2, 8);
    }

    private static void leastKind() {
        Check.sentence(0, "of one TOKEN the least kind");
        Check.fault("lines 1234;", 1, 6);
        Check.fault("lines 2;cord 9999;", 1, 13);
        Check.fault("lines 2;cord 1 to 9;", 2, 15);
        Check.fault("lines 2 9;", 2, 8);
        Check.fault("lines 2;call 0 to 1 at 0 lasts 1 100;", 2, 33);
        Check.fault("lines 2;call 9to 1 at 0 lasts 1;", 3, 13);
        Check.fault("lines 2;slips:((((((1(;", 2, 21);
        Check.fault("lines 2;slips:((((((not;", 2, 20);
        Check.fault("lines 2;slips:(((((([;", 2, 20);
        Check.fault("lines 2;marries:[[[[[[1=1 not;", 2, 26);
        Check.fault("lines 2;marries:[[[[[[1=[;", 2, 24);
        Check.fault("lines 2;marries:not not not not not ((1=;", 4, 37);
        Check.fault("lines 2;cord;cord;cord;minute cord;", 2, 30);
        Check.fault("lines 2;cord;cord;cord cord;", 2, 23);
    }

    private static void numbersOfLines() {
        Check.sentence(0, "lines: 2 to 8");
        for (int n = 0; n <= 999; n++) {
            if (n >= 2 && n <= 8) {
                Check.due("count(1)", Check.told("lines " + n + ";").count(1), n);
            } else if (n < 12 || n > 990 || n % 97 == 0) {
                Check.fault("lines " + n + ";", 3, 6);
            }
        }
    }

    private static void numbersOfCords() {
        Check.sentence(0, "cord: LINES it reaches (twice the same: nothing more; without any: all)");
        for (int lines = 2; lines <= 8; lines++) {
            String head = "lines " + lines + ";";
            CrossedLines x = Check.told(head + "cord 0 0 0;cord " + (lines - 1) + ";cord;");
            Check.due("twice the same", x.cord(0, 0), 1);
            Check.due("the last one", x.cord(1, 0), 1 << lines - 1);
            Check.due("all", x.cord(2, 0), (1 << lines) - 1);
            Check.sentence(0, "3 N is out of its bounds (a LINE that isn't there");
            Check.fault(head + "cord " + lines + ";", 3, 13);
            Check.fault(head + "cord 0 1 0 " + lines + ";", 3, 19);
            Check.fault(head + "cord 999;", 3, 13);
            Check.sentence(0, "cord: LINES it reaches (twice the same: nothing more; without any: all)");
        }
        CrossedLines y = Check.told("lines 8;cord 7 0 7 5 0 5 7;cord 0 1 2 3 4 5 6 7;");
        Check.due("some", y.cord(0, 0), 161);
        Check.due("all told", y.cord(1, 0), 255);
    }

    private static void numbersOfCalls() {
        Check.sentence(0, "call: from a LINE to another one, in which MINUTE, 0 to 999, for how many MINUTES, 1 to 99");
        for (int lines = 2; lines <= 8; lines++) {
            String head = "lines " + lines + ";call ";
            int last = lines - 1;
            Check.good(head + last + " to 0 at 0 lasts 1;", 2);
            Check.good(head + "0 to " + last + " at 999 lasts 99;", 2);
            Check.fault(head + lines + " to 0 at 0 lasts 1;", 3, 13);
            Check.fault(head + "0 to " + lines + " at 0 lasts 1;", 3, 18);
            for (int l = 0; l < lines; l++) {
                Check.fault(head + l + " to " + l + " at 0 lasts 1;", 3, 18);
            }
        }
        Check.fault("lines 2;call 0 to 1 at 0 lasts 0;", 3, 31);
        Check.fault("lines 2;call 0 to 1 at 0 lasts 100;", 3, 31);
        Check.fault("lines 2;call 0 to 1 at 0 lasts 999;", 3, 31);
        Check.fault("lines 2;call 0 to 1 at 1000 lasts 1;", 1, 23);
        Check.sentence(0, "a call to the LINE it is from");
        Check.fault("lines 2;call 0 to 0 at 0 lasts 1;", 3, 18);
        Check.fault("lines 2;call 1 to 001 at 0 lasts 1;", 3, 18);
        Check.fault("lines 2;call 1 to 1", 3, 18);
    }

    private static void numbersOfMinutes() {
        Check.sentence(0, "minute: the first one, 0 to 999 (0).");
        Check.due("without", Check.told("lines 2;").count(9), 0);
        for (int n : new int[] {0, 1, 59, 60, 998, 999}) {
            Check.due("minute " + n, Check.told("lines 2;minute " + n + ";").count(9), n);
        }
        Check.fault("lines 2;minute 1000;", 1, 15);
        Check.fault("lines 2;minute;", 2, 14);
        Check.fault("lines 2;minute 1 2;", 2, 17);
    }

    private static void anyNumberInLaws() {
        Check.sentence(0, "ATOM: N, ( SUM )");
        Check.due("0", Check.told("lines 2;likes:0;").likes(0, 1), 0);
        Check.due("999", Check.told("lines 2;likes:999;").likes(0, 1), 999);
        Check.due("(999)", Check.told("lines 2;likes:(999);").likes(0, 1), 999);
        Check.fault("lines 2;likes:();", 2, 15);
        Check.fault("lines 2;likes:-1;", 2, 14);
        Check.fault("lines 2;likes:+1;", 2, 14);
        Check.fault("lines 2;likes:1+-1;", 2, 16);
        Check.fault("lines 2;likes:1**1;", 2, 16);
        Check.due("left to right", Check.told("lines 2;likes:9-5-3;").likes(0, 1), 1);
        Check.due("* ahead of -", Check.told("lines 2;likes:9-2*3;").likes(0, 1), 3);
    }

    private static String calls(int many) {
        StringBuilder text = new StringBuilder("lines 3;");
        for (int c = 0; c < many; c++) {
            text.append("call 0 to 1 at 9 lasts 1;");
        }
        return text.toString();
    }

    private static void cordsAndCallsFull() {
        Check.sentence(0, "4 the first TOKEN of a 4th cord, an 11th call");
        Check.good("lines 2;cord;cord;cord;", 4);
        Check.due("3 at most", Check.told("lines 2;cord;cord;cord;").count(2), 3);
        Check.fault("lines 2;cord;cord;cord;cord;", 4, 23);
        Check.fault("lines 2;cord;cord;minute 1;cord;slips:1;cord 9", 4, 40);
        Check.good(calls(10), 11);
        Check.due("10 at most", Check.told(calls(10)).count(3), 10);
        Check.fault(calls(10) + "call 0 to 1 at 9 lasts 1;", 4, 258);
        Check.fault(calls(10) + "cord; call", 4, 264);
        Check.good(calls(10) + "cord;cord;cord;", 14);
    }

    /** A row of six or seven of n (not), [ and (, round 1=1 or 1. */
    private static String nested(String row) {
        StringBuilder text = new StringBuilder("lines 2;marries:");
        StringBuilder behind = new StringBuilder();
        String core = "1";
        boolean isSum = false;
        for (int i = 0; i < row.length(); i++) {
            char sort = row.charAt(i);
            if (sort == '(' && !isSum) {
                isSum = true;
                behind.insert(0, "=1");
            }
            text.append(sort == 'n' ? "not " : String.valueOf(sort));
            behind.insert(0, sort == '[' ? "]" : sort == '(' ? ")" : "");
        }
        return text + core + (isSum ? "" : "=1") + behind + ";";
    }

    private static void rows(String row, int many, List<String> all) {
        if (row.length() == many) {
            all.add(row);
            return;
        }
        boolean isSum = row.endsWith("(");
        if (!isSum) {
            rows(row + "n", many, all);
            rows(row + "[", many, all);
        }
        rows(row + "(", many, all);
    }

    private static void sixWithin() {
        Check.sentence(0, "At most six of not [ ( within one another.");
        for (int many = 0; many <= 6; many++) {
            List<String> all = new ArrayList<>();
            rows("", many, all);
            for (String row : all) {
                Check.good(nested(row), 2);
            }
        }
        Check.good("lines 2;slips:((((((from))))));likes:((((((who))))));", 3);
        Check.good("lines 2;marries:[[[[[[1=1]]]]]];", 2);
    }

    private static void sevenWithin() {
        Check.sentence(0, "a seventh of not [ (");
        List<String> all = new ArrayList<>();
        rows("", 7, all);
        for (String row : all) {
            String text = nested(row);
            int place = 16;
            for (int i = 0; i < 6; i++) {
                place += row.charAt(i) == 'n' ? 4 : 1;
            }
            Check.fault(text, 4, place);
        }
        Check.fault("lines 2;slips:(((((((from)))))));", 4, 20);
        Check.fault("lines 2;likes:1+2*((((((3-(who)))))));", 4, 26);
        Check.fault("lines 2;marries:1=1 or[[[[[[1=1 and 1=(1)]]]]]];", 4, 38);
        Check.fault("lines 2;marries:[[[[[[1=1 or not 1=1]]]]]];", 4, 29);
        Check.fault("lines 2;marries:[[[[[[1=1 and[1=1]]]]]]];", 4, 29);
    }

    private static void sideBySide() {
        Check.sentence(0, "within one another");
        Check.good("lines 2;slips:((((((1))))))+((((((1))))))*((((((1))))))-(1);", 2);
        Check.good("lines 2;marries:not not not not not not 1=1 and not not not not not not 1=1 or[[[[[[1=1]]]]]];", 2);
        Check.good("lines 2;marries:((((((1))))))=((((((1))))))and[(1)=(1)];", 2);
        Check.good("lines 2;slips:(1)+(1)+(1)+(1)+(1)+(1)+(1)+(1);", 2);
    }

    private static void laterStrike() {
        Check.sentence(0, "Later ones of slips, likes, marries, minute strike.");
        CrossedLines x = Check.told("lines 4;cord;slips:1;slips:2;likes:1;likes:2;likes:3;marries:1=1;minute 9;"
                + "call 0 to 1 at 5 lasts 1;marries:1=2;minute 5;");
        Check.due("slips", x.comesTo(0, 0), 3);
        Check.due("likes", x.likes(0, 1), 3);
        Check.due("minute", x.count(9), 5);
        Check.due("to come by the later minute", x.call(0, 4), 0);
        Check.due("marries", x.weddings(1), 0);
        CrossedLines y = Check.told("lines 4;cord;slips:1;marries:1=2;call 0 to 1 at 5 lasts 1;marries:1=1;minute 5;minute 6;");
        Check.due("lost by the later minute", y.call(0, 4), 3);
        CrossedLines z = Check.told("lines 4;cord;slips:1;marries:1=2;call 0 to 1 at 5 lasts 1;marries:1=1;minute 6;minute 5;");
        Check.due("marries", z.weddings(1), 1);
        Check.due("the longer first", Check.told("lines 4;likes:who*7+whom*3-5;likes:1;").likes(2, 3), 1);
        Check.due("the hundredth of its kind", Check.told("lines 4;" + "likes:1;".repeat(99) + "likes:who*9-whom;").likes(3, 1), 26);
        CrossedLines many = Check.told("lines 4;cord;call 0 to 1 at 0 lasts 1;" + "slips:2;".repeat(40) + "marries:1=2;".repeat(30)
                + "slips:1;marries:from=0 and to=2;");
        Check.due("many laws: where it comes to", many.comesTo(0, 0), 2);
        Check.due("many laws: who marries", many.weddings(1), 1);
        CrossedLines none = Check.told("lines 4;");
        Check.due("a law of an earlier text is none of this one", Check.exchange(x, "lines 4;call 0 to 1 at 0 lasts 1;"), 2);
        Check.due("likes of none", x.likes(0, 1), none.likes(0, 1));
        Check.due("slips of none", x.comesTo(0, 0), 1);
    }

    private static void numberedFromZero() {
        Check.sentence(0, "numbered from 0 on, 3 at most. call:");
        CrossedLines x = Check.told("lines 8;cord 0;cord 1;cord 2;call 1 to 0 at 1 lasts 1;call 2 to 0 at 2 lasts 2;");
        for (int k = 0; k < 3; k++) {
            Check.due("cord(" + k + ", 0)", x.cord(k, 0), 1 << k);
        }
        Check.sentence(0, "1 to 99; numbered from 0 on, 10 at most.");
        for (int c = 0; c < 2; c++) {
            for (int what = 0; what < 4; what++) {
                Check.due("call(" + c + ", " + what + ")", x.call(c, what), what == 1 ? 0 : c + 1);
            }
        }
        Check.refused("cord(3, 0)", Check.ELEMENT, () -> x.cord(3, 0));
        Check.refused("call(2, 0)", Check.ELEMENT, () -> x.call(2, 0));
        Check.sentence(0, "lines: 2 to 8, numbered from 0 on.");
        Check.due("line(7, 2)", x.line(7, 2), 0);
        Check.refused("line(8, 2)", Check.ELEMENT, () -> x.line(8, 2));
    }
}
