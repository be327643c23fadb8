import java.util.Arrays;

/** Boundary cases of deeds, promises 10 to 17: each sentence that names one has a test of its own. */
public final class BoundsDeedsTest {
    public static void main(String[] args) {
        dialLasts();
        dialLines();
        dialTen();
        dialInThisMinute();
        pullFrees();
        pullWhy();
        door();
        minutesFrom1To99();
        minutesOfOneCall();
        lostInThese();
        undoNumbers();
        undoEach();
        undoLatestFirst();
        eldestForgotten();
        noDeeds();
        toldDials();
        toldDoors();
        toldPulls();
        toldMinutes();
        toldNumbers();
        judgeFirst();
        judgeWhy();
        judgeLost();
        judgeMarried();
        judgeChangesNothing();
        performTill();
        performEachADeed();
        springTimes();
        springDraws();
        springSeeds();
        springIfItCanBe();
        springEachADeed();
        Check.quoted(10, 17);
        Check.end();
    }

    // ---- promises 10 and 11

    private static void dialLasts() {
        Check.sentence(10, "LASTS isn't 1 to 99: 1");
        int[] lasts = {1, 2, 98, 99};
        for (int c = 0; c < lasts.length; c++) {
            CrossedLines x = Check.told("lines 2;cord;minute 7;");
            Check.due("dial(0, 1, " + lasts[c] + ")", x.dial(0, 1, lasts[c]), 0);
            Check.due("call(0, 3)", x.call(0, 3), lasts[c]);
            x.minutes(lasts[c]);
            Check.due("on in its last minute", x.call(0, 4), 1);
            x.minutes(1);
            Check.due("then over", x.call(0, 4), 2);
        }
        for (int bad : new int[] {Integer.MIN_VALUE, -1, 0, 100, 101, Integer.MAX_VALUE}) {
            CrossedLines x = Check.told("lines 2;cord;");
            Check.due("dial(0, 1, " + bad + ")", x.dial(0, 1, bad), -1);
            Check.due("no call", x.count(3), 0);
            Check.due("no deed", x.count(10), 0);
        }
    }

    private static void dialLines() {
        Check.sentence(0, "1 no such LINE, CALL, number, both one");
        for (int lines = 2; lines <= 8; lines++) {
            CrossedLines x = Check.told("lines " + lines + ";");
            int last = lines - 1;
            for (int bad : new int[] {Integer.MIN_VALUE, -1, lines, 8, Integer.MAX_VALUE}) {
                Check.due("dial(" + bad + ", 0, 1)", x.dial(bad, 0, 1), -1);
                Check.due("dial(0, " + bad + ", 1)", x.dial(0, bad, 1), -1);
                Check.due("dial(" + bad + ", " + bad + ", 1)", x.dial(bad, bad, 1), -1);
            }
            for (int l = 0; l < lines; l++) {
                Check.due("dial(" + l + ", " + l + ", 1)", x.dial(l, l, 1), -1);
            }
            Check.due("no call of these", x.count(3), 0);
            Check.due("dial(0, last, 1)", x.dial(0, last, 1), 0);
            Check.due("dial(last, 0, 1)", x.dial(last, 0, 1), 1);
        }
    }

    private static void dialTen() {
        Check.sentence(0, "2 there are 10 CALLS");
        CrossedLines x = Check.told("lines 3;cord;call 0 to 1 at 0 lasts 1;call 0 to 1 at 9 lasts 1;");
        for (int c = 2; c < 10; c++) {
            Check.due("dial as number " + c, x.dial(1, 2, 3), c);
        }
        Check.due("dial an 11th", x.dial(1, 2, 3), -2);
        x.minutes(20);
        Check.due("none to come, still 10", x.count(4), 0);
        Check.due("dial an 11th behind them", x.dial(1, 2, 3), -2);
        Check.due("both one, and there are 10", x.dial(1, 1, 3), -1);
        Check.due("too long, and there are 10", x.dial(1, 2, 100), -1);
        Check.due("deeds: 8 dialled, 1 of minutes", x.count(10), 9);
        x.undo(2);
        Check.due("undone: there are 9", x.count(3), 9);
        Check.due("dial a 10th", x.dial(1, 2, 3), 9);
    }

    private static void dialInThisMinute() {
        Check.sentence(0, "To DIAL: a further CALL, in this MINUTE.");
        CrossedLines x = Check.told("lines 4;cord;cord;minute 998;slips:1;");
        for (int minute = 998; minute < 1003; minute++) {
            int c = x.dial(0, 1, 1);
            Check.due("its MINUTE", x.call(c, 2), minute);
            Check.due("to come", x.call(c, 4), 0);
            Check.due("not yet on", x.call(c, 5), -1);
            x.minutes(1);
            Check.due("on", x.call(c, 4), 1);
            Check.due("came to", x.call(c, 5), 2);
        }
    }

    private static void pullFrees() {
        Check.sentence(11, "To PULL: the CORD that is free then");
        CrossedLines x = Check.told("lines 6;cord;cord;cord;call 0 to 1 at 0 lasts 9;call 2 to 3 at 0 lasts 9;"
                + "call 4 to 5 at 0 lasts 9;call 0 to 2 at 1 lasts 9;call 1 to 4 at 1 lasts 9;");
        x.minutes(1);
        for (int c : new int[] {2, 0, 1}) {
            Check.due("pull(" + c + ")", x.pull(c), c);
            Check.due("it is over", x.call(c, 4), 2);
            Check.due("cord(" + c + ", 1)", x.cord(c, 1), -1);
            Check.due("line(" + 2 * c + ", 0)", x.line(2 * c, 0), -1);
            Check.due("line(" + (2 * c + 1) + ", 0)", x.line(2 * c + 1, 0), -1);
        }
        Check.due("free in this very minute", x.minutes(1), 0);
        Check.due("by the first cord", x.call(3, 6), 0);
        Check.due("by the next cord", x.call(4, 6), 1);
        CrossedLines last = Check.told("lines 2;cord;call 0 to 1 at 0 lasts 1;");
        last.minutes(1);
        Check.due("pull one whose time is up, in the minute that ends it", last.pull(0), 0);
    }

    private static void pullWhy() {
        Check.sentence(11, "below NONE: -10 less why it can't be.");
        CrossedLines x = Check.told("lines 4;cord;call 0 to 1 at 0 lasts 1;call 2 to 3 at 0 lasts 1;call 2 to 3 at 9 lasts 1;");
        int[][] want = {{-12, -12, -12, -11}, {0, -12, -12, -11}, {-12, -12, -12, -11}};
        for (int i = 0; i < want.length; i++) {
            for (int c = 3; c >= 0; c--) {
                Check.due("pull(" + c + ") in MINUTE " + i, x.pull(c), want[i][c]);
            }
            x.minutes(1);
        }
        Check.due("only what could be is a deed", x.count(10), 4);
        Check.due("pull(-1)", x.pull(-1), -11);
        Check.due("pull(10)", x.pull(10), -11);
        Check.due("pull(MIN_VALUE)", x.pull(Integer.MIN_VALUE), -11);
        Check.due("pull(MAX_VALUE)", x.pull(Integer.MAX_VALUE), -11);
    }

    // ---- promises 12 and 13

    private static void door() {
        Check.sentence(12, "A DOOR is shut, or opened: 1 if it is shut then, else 0.");
        for (int lines = 2; lines <= 8; lines++) {
            CrossedLines x = Check.told("lines " + lines + ";");
            for (int l = 0; l < lines; l++) {
                Check.due("shut " + l, x.door(l), 1);
                Check.due("open " + l, x.door(l), 0);
                Check.due("shut again " + l, x.door(l), 1);
            }
            int none = lines;
            Check.refused("door(" + none + ")", Check.ELEMENT, () -> x.door(none));
            Check.refused("door(-1)", Check.ELEMENT, () -> x.door(-1));
        }
    }

    private static void minutesFrom1To99() {
        Check.sentence(13, "n MINUTES (1 to 99)");
        CrossedLines x = new CrossedLines();
        int minute = 0;
        for (int n : new int[] {1, 2, 98, 99}) {
            Check.due("minutes(" + n + ")", x.minutes(n), 0);
            minute += n;
            Check.due("the minute", x.count(9), minute);
        }
        Check.refused("minutes(0)", Check.ARGUMENT, () -> x.minutes(0));
        Check.refused("minutes(100)", Check.ARGUMENT, () -> x.minutes(100));
        Check.due("the minute stays", x.count(9), minute);
        Check.due("a throw is no deed", x.count(10), 4);
    }

    private static void minutesOfOneCall() {
        Check.sentence(0, "MINUTES of one call");
        CrossedLines x = new CrossedLines();
        x.minutes(99);
        Check.due("99 minutes, one deed", x.count(10), 1);
        x.minutes(1);
        Check.due("one minute, one more", x.count(10), 2);
        Check.due("undo(1)", x.undo(1), 1);
        Check.due("one minute is undone", x.count(9), 99);
        Check.due("undo(1)", x.undo(1), 0);
        Check.due("99 minutes are undone", x.count(9), 0);
    }

    private static void lostInThese() {
        Check.sentence(13, "how many CALLS were LOST in these");
        String text = "lines 2;call 0 to 1 at 4 lasts 1;call 0 to 1 at 5 lasts 1;call 0 to 1 at 6 lasts 1;"
                + "call 0 to 1 at 103 lasts 1;call 0 to 1 at 104 lasts 1;minute 5;";
        CrossedLines x = Check.told(text);
        Check.due("this minute, not those lost from the beginning on", x.minutes(1), 1);
        Check.due("the next one, not those lost before", x.minutes(1), 1);
        Check.due("to the last of 97", x.minutes(97), 1);
        Check.due("the one behind it", x.minutes(1), 1);
        CrossedLines y = Check.told(text);
        Check.due("to the last of 99", y.minutes(99), 3);
        Check.due("the one behind it", y.minutes(1), 1);
        Check.due("all", y.count(7), 5);
    }

    // ---- promise 14

    private static void undoNumbers() {
        Check.sentence(14, "n isn't 1 to 10, there aren't so many.");
        for (int many = 0; many <= 12; many++) {
            int can = Math.min(many, 10);
            for (int n = -1; n <= 12; n++) {
                CrossedLines x = new CrossedLines();
                for (int i = 0; i < many; i++) {
                    x.minutes(1);
                }
                int asked = n;
                if (n >= 1 && n <= can) {
                    Check.due("undo(" + n + ") of " + many, x.undo(n), can - n);
                    Check.due("the minute", x.count(9), many - n);
                } else {
                    Check.refused("undo(" + n + ") of " + many, Check.ARGUMENT, () -> x.undo(asked));
                    Check.due("the minute", x.count(9), many);
                }
            }
        }
    }

    private static void undoEach() {
        Check.sentence(0, "each can be UNDONE");
        Twins.alike("dial", Twins::rich, x -> {
            Twins.rich(x);
            x.dial(0, 1, 1);
            x.undo(1);
        });
        Twins.alike("pull", Twins::rich, x -> {
            Twins.rich(x);
            x.pull(2);
            x.undo(1);
        });
        Twins.alike("door", Twins::rich, x -> {
            Twins.rich(x);
            x.door(2);
            x.undo(1);
        });
        Twins.alike("minutes", Twins::rich, x -> {
            Twins.rich(x);
            x.minutes(99);
            x.undo(1);
        });
        Twins.alike("perform", Twins::rich, x -> {
            Twins.rich(x);
            x.perform(0);
            x.undo(3);
        });
        Twins.alike("all of these", Twins::rich, x -> {
            Twins.rich(x);
            x.dial(0, 1, 1);
            x.minutes(1);
            x.door(0);
            x.pull(2);
            x.undo(4);
        });
    }

    private static void undoLatestFirst() {
        Check.sentence(0, "the latest first");
        CrossedLines x = Check.told("lines 2;cord;");
        x.minutes(4);
        x.door(1);
        x.dial(0, 1, 1);
        Check.due("undo(1)", x.undo(1), 2);
        Check.due("the dialled one is none", x.count(3), 0);
        Check.due("the door is still shut", x.line(1, 2), 1);
        Check.due("undo(1)", x.undo(1), 1);
        Check.due("the door is open", x.line(1, 2), 0);
        Check.due("the minutes are still gone", x.count(9), 4);
        Check.due("undo(1)", x.undo(1), 0);
        Check.due("the minutes come back", x.count(9), 0);
        Check.refused("undo(1)", Check.ARGUMENT, () -> x.undo(1));
    }

    private static void eldestForgotten() {
        Check.sentence(0, "10 at most (eldest are forgotten)");
        for (int many = 9; many <= 25; many++) {
            CrossedLines x = new CrossedLines();
            for (int i = 0; i < many; i++) {
                x.minutes(1 + i);
            }
            int can = Math.min(many, 10);
            Check.due("count(10) behind " + many, x.count(10), can);
            for (int left = can - 1; left >= 0; left--) {
                Check.due("undo(1)", x.undo(1), left);
                int done = many - can + left;
                Check.due("the minute with " + done + " done", x.count(9), done * (done + 1) / 2);
            }
            Check.refused("undo(1) of the eldest", Check.ARGUMENT, () -> x.undo(1));
        }
    }

    private static void noDeeds() {
        Check.sentence(0, "DEEDS: one of these, MINUTES of one call");
        CrossedLines x = new CrossedLines();
        Twins.rich(x);
        int deeds = x.count(10);
        x.image(1);
        x.tray(3, 0, 2);
        x.write(3, 0, 1);
        x.copy(3);
        x.judge(0, 0);
        x.lost(9);
        x.hog(9);
        x.best(0);
        x.crossed(1, 0);
        x.feed(0, 0, 0, 0, 0);
        x.pull(0);
        x.dial(0, 0, 1);
        Check.due("none of these is a deed", x.count(10), deeds);
        x.restore(1);
        Check.due("nor is an image", x.count(10), deeds);
    }

    // ---- told deeds

    private static CrossedLines withTold(String text, long... told) {
        CrossedLines x = Check.told(text);
        Check.tray(x, 0, told);
        return x;
    }

    private static void toldDials() {
        Check.sentence(0, "0 to 99: a CALL from LINE v by 10 to LINE v modulo 10 of 5 MINUTES is DIALLED");
        for (int lines = 2; lines <= 8; lines++) {
            for (int v = 0; v <= 99; v++) {
                boolean can = v / 10 < lines && v % 10 < lines && v / 10 != v % 10;
                CrossedLines x = withTold("lines " + lines + ";minute 3;", v);
                Check.due("why not " + v + " by " + lines, x.judge(0, 1), can ? 0 : 1);
                Check.due("perform " + v + " by " + lines, x.perform(0), can ? 1 : 0);
                Check.due("calls", x.count(3), can ? 1 : 0);
                if (can) {
                    Check.due("from", x.call(0, 0), v / 10);
                    Check.due("to", x.call(0, 1), v % 10);
                    Check.due("its minute", x.call(0, 2), 3);
                    Check.due("five minutes", x.call(0, 3), 5);
                }
            }
        }
    }

    private static void toldDoors() {
        Check.sentence(0, "100 and a LINE: its DOOR");
        for (int lines = 2; lines <= 8; lines++) {
            for (int v = 100; v <= 199; v++) {
                boolean can = v - 100 < lines;
                CrossedLines x = withTold("lines " + lines + ";cord;call 0 to 1 at 0 lasts 9;", v);
                Check.due("why not " + v + " by " + lines, x.judge(0, 1), can ? 0 : 1);
                Check.due("perform " + v + " by " + lines, x.perform(0), can ? 1 : 0);
                if (can) {
                    Check.due("shut", x.line(v - 100, 2), 1);
                    Check.due("perform once more", x.perform(0), 1);
                    Check.due("opened", x.line(v - 100, 2), 0);
                }
            }
        }
    }

    private static void toldPulls() {
        Check.sentence(0, "200 and a CALL: PULLED");
        StringBuilder text = new StringBuilder("lines 2;cord;");
        for (int c = 0; c < 10; c++) {
            text.append("call 0 to 1 at ").append(2 * c).append(" lasts 2;");
        }
        for (int v = 200; v <= 299; v++) {
            int c = v - 200;
            CrossedLines x = withTold(text.toString(), v);
            x.minutes(c < 10 ? 2 * c + 1 : 19);
            Check.due("why not " + v, x.judge(0, 1), c < 10 ? 0 : 1);
            Check.due("perform " + v, x.perform(0), c < 10 ? 1 : 0);
            if (c < 10) {
                Check.due("pulled", x.call(c, 4), 2);
                Check.due("why not again", x.judge(0, 1), 2);
            }
        }
        Check.sentence(0, "it isn't ON");
        CrossedLines x = withTold(text.toString(), 200);
        Check.due("one to come", x.judge(0, 1), 2);
        x.minutes(1);
        Check.due("one that is on", x.judge(0, 1), 0);
        x.minutes(2);
        Check.due("one that is over", x.judge(0, 1), 2);
        CrossedLines lost = withTold("lines 2;call 0 to 1 at 0 lasts 1;", -1, 200);
        Check.due("one that is lost", lost.judge(0, 1), 2);
        Check.due("its place", lost.judge(0, 0), 1);
        CrossedLines none = withTold("lines 2;cord;call 0 to 1 at 0 lasts 1;", 201);
        Check.due("one that isn't there", none.judge(0, 1), 1);
    }

    private static void toldMinutes() {
        Check.sentence(0, "NONE: a MINUTE.");
        CrossedLines x = withTold("lines 2;minute 999;", -1, -1, -1);
        Check.due("perform", x.perform(0), 3);
        Check.due("three minutes", x.count(9), 1002);
        Check.due("three deeds", x.count(10), 3);
        for (int sort = 0; sort < 4; sort++) {
            x.tray(1, sort, 1);
            x.write(1, 0, -1);
            Check.due("NONE in numbers of sort " + sort, x.perform(1), 1);
        }
        x.tray(1, 0, 1);
        x.write(1, 0, 255);
        Check.due("255 in 8 bits is NONE", x.perform(1), 1);
        x.tray(1, 1, 1);
        x.write(1, 0, 65535);
        Check.due("65535 in 16 bits is NONE", x.perform(1), 1);
        Check.due("nine minutes", x.count(9), 1008);
    }

    private static void toldNumbers() {
        Check.sentence(0, "They can't be: 1 no such LINE, CALL, number, both one");
        long[] bad = {-2, -3, 300, 301, 1000, Integer.MAX_VALUE, Integer.MIN_VALUE, 1L << 32, (1L << 32) - 1, (1L << 32) + 1,
            (1L << 32) + 100, Long.MAX_VALUE, Long.MIN_VALUE, 0, 11, 77, 88, 99, 18, 81, 108, 199, 200, 299};
        for (long v : bad) {
            CrossedLines x = withTold("lines 8;cord;", -1, v, -1);
            Check.due("why not " + v, x.judge(0, 1), 1);
            Check.due("where not " + v, x.judge(0, 0), 1);
            Check.due("perform " + v, x.perform(0), 1);
            Check.due("one minute", x.count(9), 1);
        }
    }

    private static void judgeFirst() {
        Check.sentence(15, "what 0: the first place that can't be (NONE)");
        long[] thirty = new long[30];
        Arrays.fill(thirty, 100);
        Check.due("all of thirty can be", withTold("lines 2;", thirty).judge(0, 0), -1);
        for (int i = 0; i < 30; i++) {
            long[] told = thirty.clone();
            told[i] = 300;
            Check.due("only " + i + " can't be", withTold("lines 2;", told).judge(0, 0), i);
            Arrays.fill(told, i, 30, 300);
            Check.due("none from " + i + " on", withTold("lines 2;", told).judge(0, 0), i);
        }
        Check.due("none told", withTold("lines 2;").judge(0, 0), -1);
        Check.due("by what is done ahead: a call dialled, on, pulled",
                withTold("lines 2;cord;", 1, 200, -1).judge(0, 0), 1);
        Check.due("pulled twice", withTold("lines 2;cord;", 1, -1, 200, 200).judge(0, 0), 3);
    }

    private static void judgeWhy() {
        Check.sentence(15, "1: why (0)");
        Check.due("none told", withTold("lines 2;").judge(0, 1), 0);
        Check.due("all can be", withTold("lines 2;", 1, 100, -1).judge(0, 1), 0);
        Check.due("no such number", withTold("lines 2;", 1, 300, 200).judge(0, 1), 1);
        Check.due("it isn't on", withTold("lines 2;", 1, 200, 300).judge(0, 1), 2);
        long[] eleven = new long[11];
        Arrays.fill(eleven, 10);
        Check.due("ten can be", withTold("lines 2;", Arrays.copyOf(eleven, 10)).judge(0, 1), 0);
        Check.due("an eleventh", withTold("lines 2;", eleven).judge(0, 1), 2);
        Check.due("its place", withTold("lines 2;", eleven).judge(0, 0), 10);
        eleven[10] = 11;
        Check.due("an eleventh, both one", withTold("lines 2;", eleven).judge(0, 1), 1);
    }

    private static void judgeLost() {
        Check.sentence(15, "2: how many CALLS are LOST then");
        String text = "lines 2;call 0 to 1 at 5 lasts 1;call 0 to 1 at 6 lasts 1;call 0 to 1 at 7 lasts 1;minute 6;";
        Check.due("none told: those of before", withTold(text).judge(0, 2), 1);
        Check.due("one minute", withTold(text, -1).judge(0, 2), 2);
        Check.due("two", withTold(text, -1, -1).judge(0, 2), 3);
        Check.due("one, then one that can't be", withTold(text, -1, 300, -1).judge(0, 2), 2);
        Check.due("dialled and lost", withTold(text, 1, -1).judge(0, 2), 3);
        Check.due("dialled, not yet lost", withTold(text, -1, 1).judge(0, 2), 2);
    }

    private static void judgeMarried() {
        Check.sentence(15, "3: how many twos are MARRIED.");
        String text = "lines 6;cord;slips:1;marries:1=1;call 0 to 1 at 0 lasts 1;call 1 to 2 at 1 lasts 1;";
        Check.due("none told", withTold(text).judge(0, 3), 0);
        Check.due("one minute", withTold(text, -1).judge(0, 3), 1);
        Check.due("two", withTold(text, -1, -1).judge(0, 3), 2);
        Check.due("one, then one that can't be", withTold(text, -1, 66, -1).judge(0, 3), 1);
        CrossedLines x = withTold(text, -1);
        x.minutes(1);
        Check.due("those of before, too", x.judge(0, 3), 2);
        Check.due("a door", withTold(text, 102, -1, -1).judge(0, 3), 1);
    }

    private static void judgeChangesNothing() {
        Check.sentence(15, "TOLD DEEDS, judged as if done");
        for (int what = 0; what < 4; what++) {
            int asked = what;
            long[] want = {3, 2, 3, 1};
            Twins.unchanged("judge(0, " + what + ")", want[what], Twins::rich, x -> x.judge(0, asked));
        }
    }

    // ---- promises 16 and 17

    private static void performTill() {
        Check.sentence(16, "till one can't be: how many were");
        Check.due("none told", withTold("lines 2;").perform(0), 0);
        for (int i = 0; i <= 30; i++) {
            long[] told = new long[30];
            Arrays.fill(told, -1);
            if (i < 30) {
                told[i] = 300;
            }
            CrossedLines x = withTold("lines 2;", told);
            Check.due("perform till " + i, x.perform(0), i);
            Check.due("so many minutes", x.count(9), i);
            Check.due("what is behind isn't done", x.count(10), Math.min(i, 10));
        }
        CrossedLines x = withTold("lines 2;", 1, 1, 1, 1, 1, 1, 1, 1, 1, 1, 1, -1);
        Check.due("ten dialled", x.perform(0), 10);
        Check.due("none more", x.perform(0), 0);
        Check.due("no minute", x.count(9), 0);
    }

    private static void performEachADeed() {
        Check.sentence(16, "They are done (each a DEED)");
        CrossedLines x = withTold("lines 2;cord;", 1, -1, 200, 100, -1, -1);
        Check.due("perform", x.perform(0), 6);
        Check.due("six deeds", x.count(10), 6);
        int[] minutes = {2, 1, 1, 1, 0, 0};
        for (int i = 0; i < 6; i++) {
            Check.due("undo(1)", x.undo(1), 5 - i);
            Check.due("the minute", x.count(9), minutes[i]);
        }
        Twins.alike("as they are done by calls", y -> {
            Twins.rich(y);
            Check.tray(y, 0, 23, -1, 104, 202, -1, 11);
            y.perform(0);
        }, y -> {
            Twins.rich(y);
            Check.tray(y, 0, 23, -1, 104, 202, -1, 11);
            y.dial(2, 3, 5);
            y.minutes(1);
            y.door(4);
            y.pull(2);
            y.minutes(1);
        });
    }

    /** A spring as the document tells it, by perform(), which does one told deed at a time. */
    private static int sprung(CrossedLines x, int seed, int times) {
        int lines = x.count(1);
        int draw = seed;
        int done = 0;
        x.tray(3, 3, 1);
        for (int i = 0; i < times; i++) {
            draw = 1103515245 * draw + 12345;
            int sort = (draw >>> 16) % 5;
            long told = -1;
            if (sort == 2) {
                draw = 1103515245 * draw + 12345;
                told = 10 * ((draw >>> 16) % lines);
                draw = 1103515245 * draw + 12345;
                told += (draw >>> 16) % lines;
            } else if (sort > 2) {
                draw = 1103515245 * draw + 12345;
                told = sort == 3 ? 100 + (draw >>> 16) % lines : 200 + (draw >>> 16) % 10;
            }
            x.write(3, 0, told);
            done += x.perform(3);
        }
        return done;
    }

    private static String state(CrossedLines x) {
        StringBuilder told = new StringBuilder();
        for (int what = 0; what < 12; what++) {
            told.append(x.count(what)).append(' ');
        }
        for (int l = 0; l < x.count(1); l++) {
            told.append(x.line(l, 0)).append(x.line(l, 1)).append(x.line(l, 2)).append(' ');
        }
        for (int c = 0; c < x.count(3); c++) {
            for (int what = 0; what < 7; what++) {
                told.append(x.call(c, what)).append(' ');
            }
        }
        return told.toString();
    }

    private static void compareSprings(String text, int seed, int times) {
        CrossedLines x = Check.told(text);
        CrossedLines y = Check.told(text);
        Check.due("spring(" + seed + ", " + times + ")", x.spring(seed, times), sprung(y, seed, times));
        Check.same("all behind spring(" + seed + ", " + times + ")", state(x), state(y));
    }

    private static void springTimes() {
        Check.sentence(0, "so many times (1 to 30)");
        for (int times = 1; times <= 30; times++) {
            compareSprings("lines 5;cord;cord;", 20261119, times);
        }
        CrossedLines x = new CrossedLines();
        Check.refused("spring(1, 0)", Check.ARGUMENT, () -> x.spring(1, 0));
        Check.refused("spring(1, 31)", Check.ARGUMENT, () -> x.spring(1, 31));
        Check.due("no deed", x.count(10), 0);
    }

    private static void springDraws() {
        Check.sentence(0, "a DRAW: x becomes 1103515245 x + 12345, it is x >>> 16");
        // The first draw of each seed is told: 12345 of 0, so 0; 1103527590 of 1, so 16838.
        CrossedLines zero = new CrossedLines();
        Check.due("spring(0, 1)", zero.spring(0, 1), 1);
        Check.due("a minute", zero.count(9), 1);
        int[] seen = new int[5];
        for (int seed = 0; seed < 200; seed++) {
            int sort = (1103515245 * seed + 12345 >>> 16) % 5;
            seen[sort]++;
            CrossedLines x = Check.told("lines 8;");
            int done = x.spring(seed, 1);
            Check.sentence(0, "DRAW modulo 5: 0 and 1 a MINUTE");
            Check.due("minute by " + seed, x.count(9), sort < 2 ? 1 : 0);
            Check.due("doors by " + seed, doorsShut(x), sort == 3 ? 1 : 0);
            Check.due("calls by " + seed, x.count(3), sort == 2 ? done : 0);
            Check.due("done by " + seed, sort == 4 || sort == 2 || done == 1, true);
            Check.due("pulled by " + seed, sort == 4 && done > 0, false);
        }
        for (int sort = 0; sort < 5; sort++) {
            Check.due("some were of sort " + sort, seen[sort] > 20, true);
        }
    }

    private static int doorsShut(CrossedLines x) {
        int shut = 0;
        for (int l = 0; l < x.count(1); l++) {
            shut += x.line(l, 2);
        }
        return shut;
    }

    private static void springSeeds() {
        Check.sentence(0, "A SPRING by a SEED (x, an int");
        int[] seeds = {Integer.MIN_VALUE, Integer.MIN_VALUE + 1, -65536, -1, 0, 1, 65535, 65536, Integer.MAX_VALUE - 1,
            Integer.MAX_VALUE};
        for (int seed : seeds) {
            for (int lines = 2; lines <= 8; lines++) {
                compareSprings("lines " + lines + ";cord;cord 0 1;slips:minute;marries:1=1;", seed, 30);
            }
        }
    }

    private static void springIfItCanBe() {
        Check.sentence(17, "A SPRING (each a DEED): how many could be.");
        int less = 0;
        for (int seed = 0; seed < 60; seed++) {
            String text = "lines 2;cord;call 0 to 1 at 0 lasts 1;call 0 to 1 at 0 lasts 1;call 0 to 1 at 0 lasts 1;"
                    + "call 0 to 1 at 0 lasts 1;call 0 to 1 at 0 lasts 1;call 0 to 1 at 0 lasts 1;call 0 to 1 at 5 lasts 9;";
            compareSprings(text, seed * 7654321, 30);
            less += Check.told(text).spring(seed * 7654321, 30) < 30 ? 1 : 0;
        }
        Check.due("where some couldn't be", less > 30, true);
    }

    private static void springEachADeed() {
        Check.sentence(17, "(each a DEED)");
        for (int times = 1; times <= 30; times++) {
            CrossedLines x = Check.told("lines 3;cord;");
            int done = x.spring(77, times);
            Check.due("deeds behind " + times, x.count(10), Math.min(done, 10));
            if (done > 0 && done <= 10) {
                Check.due("undo them all", x.undo(done), 0);
                Check.due("the minute", x.count(9), 0);
                Check.due("calls", x.count(3), 0);
                Check.due("doors", doorsShut(x), 0);
            }
        }
    }
}
