/** Promises 10 to 17: deeds, undone, told and sprung; and what a minute does. */
public final class DeedsTest {
    public static void main(String[] args) {
        dial();
        pull();
        door();
        minuteByMinute();
        whyLost();
        married();
        marriesNot();
        minutes();
        undo();
        judge();
        judgeWhy();
        perform();
        spring();
        Check.end();
    }

    private static void dial() {
        CrossedLines x = Check.told("lines 3;cord;minute 998;call 0 to 1 at 999 lasts 5;");
        Check.due("dial", x.dial(1, 2, 99), 1);
        int[] want = {1, 2, 998, 99, 0, -1, -1};
        for (int what = 0; what < 7; what++) {
            Check.due("dialled: call(1, " + what + ")", x.call(1, what), want[what]);
        }
        Check.due("dial from no line", x.dial(3, 0, 1), -1);
        Check.due("dial from below", x.dial(-1, 0, 1), -1);
        Check.due("dial to no line", x.dial(0, 3, 1), -1);
        Check.due("dial itself", x.dial(1, 1, 1), -1);
        Check.due("dial for 0", x.dial(0, 1, 0), -1);
        Check.due("dial for 100", x.dial(0, 1, 100), -1);
        Check.due("nothing happened", x.count(10), 1);
        for (int c = 2; c < 10; c++) {
            Check.due("dial " + c, x.dial(0, 1, 1), c);
        }
        Check.due("an 11th", x.dial(0, 1, 1), -2);
        Check.due("an 11th for 0", x.dial(0, 1, 0), -1);
        Check.due("count(3)", x.count(3), 10);
        x.minutes(3);
        CrossedLines y = Check.told("lines 3;minute 999;");
        y.minutes(99);
        y.dial(0, 1, 1);
        Check.due("dialled beyond 999", y.call(0, 2), 1098);
    }

    private static void pull() {
        CrossedLines x = Check.told("lines 4;cord 0 1;cord;call 2 to 3 at 0 lasts 9;call 0 to 1 at 5 lasts 1;");
        Check.due("pull one to come", x.pull(0), -12);
        Check.due("pull none", x.pull(2), -11);
        Check.due("pull below", x.pull(-1), -11);
        x.minutes(1);
        Check.due("pull", x.pull(0), 1);
        Check.due("over", x.call(0, 4), 2);
        Check.due("its cord is free", x.cord(1, 1), -1);
        Check.due("its line is free", x.line(3, 0), -1);
        Check.due("pull again", x.pull(0), -12);
        Check.due("deeds", x.count(10), 2);
        x.dial(2, 3, 1);
        x.minutes(1);
        Check.due("a pulled line and cord serve again", x.call(2, 4), 1);
        Check.due("on although its time is up", x.line(2, 0), 3);
        Check.due("pull one whose time is up", x.pull(2), 1);
    }

    private static void door() {
        CrossedLines x = Check.told("lines 2;cord;call 0 to 1 at 0 lasts 2;call 1 to 0 at 3 lasts 1;");
        x.minutes(1);
        Check.due("shut", x.door(1), 1);
        Check.due("shut is told", x.line(1, 2), 1);
        Check.due("the other one is open", x.line(0, 2), 0);
        Check.due("a call there stays", x.line(1, 0), 0);
        Check.due("lost by the door", x.minutes(3), 1);
        Check.due("opened", x.door(1), 0);
        Check.due("open is told", x.line(1, 2), 0);
        Check.refused("door(2)", Check.ELEMENT, () -> x.door(2));
        Check.refused("door(-1)", Check.ELEMENT, () -> x.door(-1));
        Check.due("deeds", x.count(10), 4);
    }

    private static void minuteByMinute() {
        CrossedLines x = Check.told("lines 4;cord;call 0 to 1 at 1 lasts 2;call 2 to 3 at 3 lasts 1;call 1 to 0 at 2 lasts 1;");
        int[][] states = {{0, 0, 0}, {1, 0, 0}, {1, 0, 3}, {2, 1, 3}, {2, 2, 3}};
        int[] lost = {0, 0, 1, 0, 0};
        for (int i = 0; i < states.length; i++) {
            Check.due("minute " + i, x.minutes(1), lost[i]);
            for (int c = 0; c < 3; c++) {
                Check.due("state of " + c + " behind minute " + i, x.call(c, 4), states[i][c]);
            }
            Check.due("the minute", x.count(9), i + 1);
        }
    }

    private static void whyLost() {
        Check.due("comes to itself", Check.told("lines 3;cord;slips:from-to;call 0 to 1 at 0 lasts 1;").minutes(1), 1);
        Check.due("no cord", Check.told("lines 3;call 0 to 1 at 0 lasts 1;").minutes(1), 1);
        Check.due("no cord to both", Check.told("lines 3;cord 0 2;cord 1 2;call 0 to 1 at 0 lasts 1;").minutes(1), 1);
        Check.due("slipped to where no cord is", Check.told("lines 3;cord 0 1;slips:1;call 0 to 1 at 0 lasts 1;").minutes(1), 1);
        CrossedLines x = Check.told("lines 4;cord;cord;call 0 to 1 at 0 lasts 1;call 2 to 1 at 0 lasts 1;"
                + "call 0 to 3 at 0 lasts 1;call 2 to 3 at 0 lasts 1;");
        Check.due("by numbers", x.minutes(1), 2);
        Check.due("to one that is busy", x.call(1, 4), 3);
        Check.due("from one that is busy", x.call(2, 4), 3);
        Check.due("by the next cord", x.call(3, 6), 1);
        CrossedLines y = Check.told("lines 3;cord;slips:1;call 0 to 1 at 0 lasts 1;");
        y.door(1);
        Check.due("a door that it slips by", y.minutes(1), 0);
        CrossedLines z = Check.told("lines 3;cord;slips:1;call 0 to 1 at 0 lasts 1;");
        z.door(2);
        Check.due("a door to which it slips", z.minutes(1), 1);
        CrossedLines w = Check.told("lines 3;cord;call 0 to 1 at 0 lasts 1;");
        w.door(0);
        Check.due("the caller's door", w.minutes(1), 1);
    }

    private static void married() {
        String law = "from=2 and to=1 and minute=5 and call=1 and likes=21 and liked=12";
        CrossedLines x = Check.told("lines 4;cord;minute 65;slips:call;likes:who*10+whom;marries:" + law
                + ";call 0 to 1 at 60 lasts 1;call 2 to 0 at 65 lasts 1;");
        Check.due("count(8) at first", x.count(8), 0);
        x.minutes(1);
        Check.due("count(8)", x.count(8), 1);
        Check.due("line(2, 1)", x.line(2, 1), 1);
        Check.due("line(1, 1)", x.line(1, 1), 2);
        Check.due("line(0, 1)", x.line(0, 1), -1);
        x.minutes(1);
        Check.due("married for good", x.line(1, 1), 2);
    }

    private static void marriesNot() {
        String calls = "call 0 to 1 at 0 lasts 1;call 0 to 2 at 1 lasts 1;call 3 to 1 at 2 lasts 1;call 1 to 2 at 3 lasts 1;";
        CrossedLines meant = Check.told("lines 4;cord;marries:1=1;" + calls);
        Check.due("none without slips", meant.weddings(9), 0);
        CrossedLines lawless = Check.told("lines 4;cord;slips:1;" + calls);
        Check.due("none without law", lawless.weddings(9), 0);
        CrossedLines x = Check.told("lines 4;cord;slips:1;marries:1=1;" + calls);
        x.minutes(1);
        Check.due("0 and 2", x.line(0, 1), 2);
        x.minutes(1);
        Check.due("0 is married already", x.line(3, 1), -1);
        x.minutes(1);
        Check.due("2 is married already", x.line(3, 1), -1);
        x.minutes(1);
        Check.due("1 and 3", x.line(1, 1), 3);
        Check.due("count(8)", x.count(8), 2);
        Check.due("or, and, not", Check.told("lines 3;cord;slips:1;call 0 to 1 at 0 lasts 1;"
                + "marries:1=2 or not 1=2 and [1>2 or 1<2];").weddings(1), 1);
        String[] untrue = {"1<1", "1>1", "2<1", "1>2", "1=2", "not 1=1", "[1=1]and[1=2]", "[1=2]or[2=1]"};
        for (String law : untrue) {
            Check.due(law, Check.told("lines 3;cord;slips:1;call 0 to 1 at 0 lasts 1;marries:" + law + ";").weddings(1), 0);
            Check.due("not " + law, Check.told("lines 3;cord;slips:1;call 0 to 1 at 0 lasts 1;marries:not[" + law
                    + "];").weddings(1), 1);
        }
        Check.due("and binds more than or", Check.told("lines 3;cord;slips:1;call 0 to 1 at 0 lasts 1;"
                + "marries:1=1 or 1=1 and 1=2;").weddings(1), 1);
        Check.due("not binds most", Check.told("lines 3;cord;slips:1;call 0 to 1 at 0 lasts 1;"
                + "marries:not 1=1 and 1=2;").weddings(1), 0);
    }

    private static void minutes() {
        CrossedLines x = Check.told("lines 2;call 0 to 1 at 3 lasts 1;call 0 to 1 at 98 lasts 1;call 0 to 1 at 99 lasts 1;");
        Check.refused("minutes(0)", Check.ARGUMENT, () -> x.minutes(0));
        Check.refused("minutes(100)", Check.ARGUMENT, () -> x.minutes(100));
        Check.due("a throw is no deed", x.count(10), 0);
        Check.due("minutes(99)", x.minutes(99), 2);
        Check.due("count(9)", x.count(9), 99);
        Check.due("one deed", x.count(10), 1);
        Check.due("minutes(1)", x.minutes(1), 1);
        CrossedLines y = Check.told("lines 2;cord;call 0 to 1 at 0 lasts 5;");
        y.minutes(5);
        Check.due("it lasts to the end", y.call(0, 4), 1);
        y.minutes(1);
        Check.due("then it is over", y.call(0, 4), 2);
    }

    private static void undo() {
        CrossedLines x = Check.told("lines 3;cord;slips:1;marries:1=1;call 0 to 1 at 0 lasts 9;");
        x.door(1);
        x.minutes(2);
        x.pull(0);
        x.dial(1, 2, 3);
        Check.refused("undo(0)", Check.ARGUMENT, () -> x.undo(0));
        Check.refused("undo(5)", Check.ARGUMENT, () -> x.undo(5));
        Check.refused("undo(11)", Check.ARGUMENT, () -> x.undo(11));
        Check.due("undo dial", x.undo(1), 3);
        Check.due("no such call", x.count(3), 1);
        Check.due("undo pull", x.undo(1), 2);
        Check.due("on again", x.call(0, 4), 1);
        Check.due("its cord again", x.cord(0, 1), 0);
        Check.due("undo minutes", x.undo(1), 1);
        Check.due("the minute", x.count(9), 0);
        Check.due("unmarried", x.count(8), 0);
        Check.due("to come", x.call(0, 4), 0);
        Check.due("not come", x.call(0, 5), -1);
        Check.due("undo door", x.undo(1), 0);
        Check.due("open", x.line(1, 2), 0);
        for (int i = 0; i < 13; i++) {
            x.minutes(1);
        }
        Check.due("ten at most", x.count(10), 10);
        Check.due("undo(4)", x.undo(4), 6);
        x.door(2);
        Check.due("one more", x.count(10), 7);
        Check.due("undo(7)", x.undo(7), 0);
        Check.due("three stay done", x.count(9), 3);
        Check.refused("undo(1) of none", Check.ARGUMENT, () -> x.undo(1));
    }

    private static void judge() {
        CrossedLines x = Check.told("lines 3;cord;slips:1;marries:1=1;call 0 to 1 at 5 lasts 9;minute 6;");
        Check.tray(x, 0, 1, -1, 12, -1, 100, 200, 101, -1);
        Check.due("judge(0, 0)", x.judge(0, 0), 5);
        Check.due("judge(0, 1)", x.judge(0, 1), 2);
        Check.due("lost till then", x.judge(0, 2), 2);
        Check.due("married till then", x.judge(0, 3), 1);
        Check.due("nothing is done", x.count(9), 6);
        Check.due("nothing can be undone", x.count(10), 0);
        Check.tray(x, 1);
        Check.due("nothing told: 0", x.judge(1, 0), -1);
        Check.due("nothing told: 1", x.judge(1, 1), 0);
        Check.due("nothing told: 2", x.judge(1, 2), 1);
        Check.due("nothing told: 3", x.judge(1, 3), 0);
        Check.refused("judge(4, 9)", Check.ELEMENT, () -> x.judge(4, 9));
        Check.refused("judge(-1, 0)", Check.ELEMENT, () -> x.judge(-1, 0));
        Check.refused("judge(2, 9)", Check.STATE, () -> x.judge(2, 9));
        Check.refused("judge(0, 4)", Check.ARGUMENT, () -> x.judge(0, 4));
        Check.refused("judge(0, -1)", Check.ARGUMENT, () -> x.judge(0, -1));
    }

    private static void judgeWhy() {
        CrossedLines x = Check.told("lines 4;cord;call 0 to 1 at 0 lasts 1;");
        long[] told = {0, 33, 34, 40, 99, 104, 199, 201, 299, 300, -2, 1L << 32, (1L << 32) - 1, (1L << 32) + 1,
            Long.MIN_VALUE};
        for (long v : told) {
            Check.tray(x, 0, v);
            Check.due("why not " + v, x.judge(0, 1), 1);
            Check.due("where not " + v, x.judge(0, 0), 0);
        }
        Check.tray(x, 0, 200);
        Check.due("why not pull one to come", x.judge(0, 1), 2);
        Check.tray(x, 0, -1, 200, 200);
        Check.due("why not pull one that is over", x.judge(0, 1), 2);
        Check.due("where", x.judge(0, 0), 2);
        Check.tray(x, 0, 1, 1, 1, 1, 1, 1, 1, 1, 1, 11, 12);
        Check.due("both one, though there are 10", x.judge(0, 1), 1);
        Check.tray(x, 0, 1, 1, 1, 1, 1, 1, 1, 1, 1, 12);
        Check.due("there are 10", x.judge(0, 1), 2);
        Check.due("there are 10: where", x.judge(0, 0), 9);
        x.tray(1, 0, 1);
        x.write(1, 0, 255);
        Check.due("a minute of 8 bits", x.judge(1, 1), 0);
        x.write(1, 0, 200);
        Check.due("200 has no room in 8 bits", x.judge(1, 1), 1);
    }

    private static void perform() {
        CrossedLines x = Check.told("lines 4;cord;minute 7;");
        Check.tray(x, 3, 32, -1, 103, 200, 103, -1);
        Check.due("perform", x.perform(3), 6);
        Check.due("five minutes", x.call(0, 3), 5);
        Check.due("its minute", x.call(0, 2), 7);
        Check.due("pulled", x.call(0, 4), 2);
        Check.due("opened", x.line(3, 2), 0);
        Check.due("each a deed", x.count(10), 6);
        Check.due("till one can't be", x.perform(3), 3);
        Check.due("three more", x.count(10), 9);
        Check.due("shut", x.line(3, 2), 1);
        Check.due("undo(9)", x.undo(9), 0);
        Check.due("all is undone", x.count(3), 0);
        Check.tray(x, 3);
        Check.due("nothing told", x.perform(3), 0);
        for (int l = 0; l < 4; l++) {
            Check.tray(x, 3, 100 + l);
            Check.due("door " + l, x.perform(3), 1);
            Check.due("shut " + l, x.line(l, 2), 1);
        }
        Check.due("doors are no calls", x.count(3), 0);
        Check.refused("perform(4)", Check.ELEMENT, () -> x.perform(4));
        Check.refused("perform(0)", Check.STATE, () -> x.perform(0));
    }

    private static void spring() {
        int pulled = 0;
        for (int seed = -50; seed < 50; seed++) {
            String text = "lines 5;cord;cord 0 1 2;slips:minute;marries:1=1;";
            CrossedLines x = Check.told(text);
            CrossedLines y = Check.told(text);
            int draw = seed * 50000001;
            int done = 0;
            for (int i = 0; i < 30; i++) {
                draw = draw * 1103515245 + 12345;
                int sort = (draw >>> 16) % 5;
                long told = -1;
                if (sort >= 2) {
                    draw = draw * 1103515245 + 12345;
                    int first = draw >>> 16;
                    if (sort == 2) {
                        draw = draw * 1103515245 + 12345;
                        told = 10 * (first % 5) + (draw >>> 16) % 5;
                    } else {
                        told = sort == 3 ? 100 + first % 5 : 200 + first % 10;
                    }
                }
                Check.tray(y, 0, told);
                int can = y.perform(0);
                done += can;
                pulled += sort == 4 ? can : 0;
            }
            Check.due("spring by " + seed, x.spring(seed * 50000001, 30), done);
            for (int what = 0; what < 11; what++) {
                Check.due("sprung by " + seed + ": count(" + what + ")", x.count(what), y.count(what));
            }
        }
        Check.due("some were pulled", pulled > 20 ? 1 : 0, 1);
        CrossedLines x = new CrossedLines();
        Check.refused("spring(1, 0)", Check.ARGUMENT, () -> x.spring(1, 0));
        Check.refused("spring(1, 31)", Check.ARGUMENT, () -> x.spring(1, 31));
        Check.due("spring(1, 1)", x.spring(1, 1), 1);
        Check.due("one deed", x.count(10), 1);
    }
}
