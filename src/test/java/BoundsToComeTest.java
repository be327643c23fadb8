/** Boundary cases of what is to come, promises 18 to 23: each sentence that names one has a test of its own. */
public final class BoundsToComeTest {
    public static void main(String[] args) {
        nothingIsDone();
        lostFrom1To999();
        lostInTheNext();
        lostNotThoseOfBefore();
        firstLostFirst();
        firstLostOfOneMinute();
        firstLostFar();
        firstLostNone();
        togetherThisMinute();
        togetherIfTheyAre();
        togetherFar();
        togetherNever();
        togetherFirst();
        togetherBothOne();
        weddingsFrom1To999();
        weddingsOfBefore();
        busiestFrom1To999();
        busiestAtTheEnd();
        busiestFirst();
        busiestThisMinute();
        hogFewest();
        hogFewer();
        hogOthers();
        hogFirst();
        hogInTheNext();
        hogNone();
        afterManyMinutes();
        Check.quoted(18, 23);
        Check.end();
    }

    private static void nothingIsDone() {
        Check.sentence(0, "To come: MINUTES go by, nothing else being done.");
        Twins.unchanged("lost(999)", 1, Twins::rich, x -> x.lost(999));
        Twins.unchanged("firstLost()", 3, Twins::rich, x -> x.firstLost());
        Twins.unchanged("together(0, 4)", 0, Twins::rich, x -> x.together(0, 4));
        Twins.unchanged("weddings(999)", 2, Twins::rich, x -> x.weddings(999));
        Twins.unchanged("busiest(999)", 0, Twins::rich, x -> x.busiest(999));
        Twins.unchanged("hog(999)", -1, Twins::rich, x -> x.hog(999));
    }

    // ---- promises 18 and 19

    private static void lostFrom1To999() {
        Check.sentence(18, "in the next n MINUTES (1 to 999)");
        CrossedLines x = Check.told("lines 2;call 0 to 1 at 0 lasts 1;call 0 to 1 at 998 lasts 1;call 0 to 1 at 999 lasts 1;");
        Check.refused("lost(0)", Check.ARGUMENT, () -> x.lost(0));
        Check.due("lost(1)", x.lost(1), 1);
        Check.due("lost(998)", x.lost(998), 1);
        Check.due("lost(999)", x.lost(999), 2);
        Check.refused("lost(1000)", Check.ARGUMENT, () -> x.lost(1000));
        x.minutes(1);
        Check.due("lost(999) from 1 on", x.lost(999), 2);
        Check.due("lost(998) from 1 on", x.lost(998), 1);
    }

    private static void lostInTheNext() {
        Check.sentence(18, "How many CALLS are LOST in the next n MINUTES");
        CrossedLines x = Check.told("lines 3;cord;call 0 to 1 at 5 lasts 2;call 1 to 2 at 6 lasts 1;call 1 to 2 at 7 lasts 1;"
                + "call 0 to 2 at 7 lasts 1;minute 5;");
        int[] want = {0, 1, 2, 2, 2};
        for (int n = 1; n <= want.length; n++) {
            Check.due("lost(" + n + ")", x.lost(n), want[n - 1]);
        }
        x.door(2);
        Check.due("with a door shut: lost(2)", x.lost(2), 1);
        Check.due("with a door shut: lost(3)", x.lost(3), 3);
    }

    private static void lostNotThoseOfBefore() {
        Check.sentence(18, "in the next n MINUTES");
        CrossedLines x = Check.told("lines 2;call 0 to 1 at 0 lasts 1;call 0 to 1 at 3 lasts 1;call 0 to 1 at 4 lasts 1;minute 3;");
        Check.due("not the one from the beginning on", x.lost(999), 2);
        x.minutes(1);
        Check.due("not the one of a minute that is past", x.lost(999), 1);
        x.minutes(1);
        Check.due("none more", x.lost(999), 0);
    }

    private static void firstLostFirst() {
        Check.sentence(19, "The first CALL that is LOST in MINUTES to come");
        CrossedLines x = Check.told("lines 2;call 0 to 1 at 9 lasts 1;call 0 to 1 at 7 lasts 1;call 0 to 1 at 5 lasts 1;"
                + "call 0 to 1 at 2 lasts 1;minute 3;");
        Check.due("the one of the first minute, whatever its number", x.firstLost(), 2);
        x.minutes(3);
        Check.due("not one that is lost already", x.firstLost(), 1);
        x.minutes(2);
        Check.due("the last", x.firstLost(), 0);
        x.minutes(2);
        Check.due("none", x.firstLost(), -1);
    }

    private static void firstLostOfOneMinute() {
        Check.sentence(19, "of one MINUTE the first");
        CrossedLines x = Check.told("lines 4;cord;call 2 to 3 at 9 lasts 1;call 0 to 1 at 4 lasts 1;call 2 to 3 at 4 lasts 1;"
                + "call 1 to 0 at 4 lasts 1;");
        Check.due("of two that are lost in 4", x.firstLost(), 2);
    }

    private static void firstLostFar() {
        Check.sentence(19, "(1,200 at most)");
        CrossedLines x = Check.told("lines 2;call 0 to 1 at 999 lasts 1;");
        Check.due("in 999 minutes", x.firstLost(), 0);
        x.minutes(99);
        Check.due("in 900 minutes", x.firstLost(), 0);
    }

    private static void firstLostNone() {
        Check.sentence(19, "NONE: none is.");
        Check.due("no calls", new CrossedLines().firstLost(), -1);
        Check.due("one that isn't lost", Check.told("lines 2;cord;call 0 to 1 at 3 lasts 1;").firstLost(), -1);
        Check.due("one that was lost before", Check.told("lines 2;call 0 to 1 at 3 lasts 1;minute 4;").firstLost(), -1);
        CrossedLines on = Check.told("lines 2;cord;call 0 to 1 at 3 lasts 9;minute 3;");
        on.minutes(1);
        on.door(0);
        Check.due("one that is on", on.firstLost(), -1);
    }

    // ---- promise 20

    private static void togetherThisMinute() {
        Check.sentence(20, "In how many MINUTES (0: this one)");
        CrossedLines x = Check.told("lines 4;cord;call 0 to 1 at 7 lasts 1;call 2 to 3 at 8 lasts 1;minute 7;");
        Check.due("together(0, 1)", x.together(0, 1), 0);
        Check.due("together(1, 0)", x.together(1, 0), 0);
        Check.due("together(2, 3)", x.together(2, 3), 1);
        Check.due("together(3, 2)", x.together(3, 2), 1);
        x.dial(2, 3, 4);
        Check.due("lost for want of a cord: together(2, 3) next minute", x.together(2, 3), 1);
    }

    private static void togetherIfTheyAre() {
        Check.sentence(20, "(0, too, if they are)");
        CrossedLines x = Check.told("lines 4;cord;slips:1;call 0 to 1 at 0 lasts 3;call 2 to 3 at 50 lasts 1;");
        for (int minute = 1; minute <= 3; minute++) {
            x.minutes(1);
            Check.due("together(2, 0) from " + minute + " on", x.together(2, 0), 0);
            Check.due("together(0, 2) from " + minute + " on", x.together(0, 2), 0);
        }
        x.minutes(1);
        Check.due("no more: the next time", x.together(0, 2), 46);
        CrossedLines y = Check.told("lines 4;cord;call 0 to 1 at 0 lasts 9;");
        y.minutes(1);
        Check.due("they are", y.together(0, 1), 0);
        Check.due("one of them and another", y.together(0, 3), -1);
        y.pull(0);
        Check.due("pulled", y.together(0, 1), -1);
    }

    private static void togetherFar() {
        Check.sentence(20, "are ON together first, in 1,200 at most");
        CrossedLines x = Check.told("lines 2;cord;call 0 to 1 at 999 lasts 1;");
        Check.due("in 999", x.together(0, 1), 999);
        x.minutes(99);
        Check.due("in 900", x.together(0, 1), 900);
    }

    private static void togetherNever() {
        Check.sentence(20, "NONE: never.");
        Check.due("no calls", new CrossedLines().together(0, 1), -1);
        Check.due("a lost one", Check.told("lines 2;call 0 to 1 at 0 lasts 1;").together(0, 1), -1);
        CrossedLines x = Check.told("lines 3;cord;slips:1;call 0 to 1 at 5 lasts 1;");
        Check.due("a slip takes it elsewhere", x.together(0, 1), -1);
        Check.due("there", x.together(0, 2), 5);
        x.door(2);
        Check.due("a door is shut", x.together(0, 2), -1);
        CrossedLines past = Check.told("lines 3;cord;call 0 to 1 at 0 lasts 1;");
        past.minutes(2);
        Check.due("one that is over", past.together(0, 1), -1);
    }

    private static void togetherFirst() {
        Check.sentence(20, "two LINES are ON together first");
        CrossedLines x = Check.told("lines 3;cord;call 0 to 1 at 9 lasts 1;call 1 to 0 at 6 lasts 1;call 0 to 1 at 3 lasts 1;"
                + "call 0 to 2 at 2 lasts 2;");
        Check.due("that of 3 is lost, so that of 6", x.together(0, 1), 6);
        Check.due("together(2, 0)", x.together(2, 0), 2);
        CrossedLines y = Check.told("lines 4;cord;call 1 to 2 at 3 lasts 1;call 3 to 0 at 4 lasts 1;call 0 to 3 at 5 lasts 1;"
                + "call 2 to 1 at 6 lasts 1;call 0 to 1 at 8 lasts 1;");
        Check.due("each with another one ahead of it: together(0, 1)", y.together(0, 1), 8);
        Check.due("each with another one ahead of it: together(1, 0)", y.together(1, 0), 8);
        Check.due("never: together(0, 2)", y.together(0, 2), -1);
        Check.due("never: together(1, 3)", y.together(1, 3), -1);
    }

    private static void togetherBothOne() {
        Check.sentence(20, "IllegalArgumentException: both one.");
        CrossedLines x = new CrossedLines();
        Check.refused("together(1, 1)", Check.ARGUMENT, () -> x.together(1, 1));
        Check.refused("together(2, 2)", Check.ELEMENT, () -> x.together(2, 2));
        Check.refused("together(-1, 0)", Check.ELEMENT, () -> x.together(-1, 0));
        Check.refused("together(0, 2)", Check.ELEMENT, () -> x.together(0, 2));
    }

    // ---- promise 21

    private static void weddingsFrom1To999() {
        Check.sentence(21, "behind n MINUTES more (1 to 999)");
        CrossedLines x = Check.told("lines 8;cord;slips:1;marries:1=1;call 0 to 1 at 0 lasts 1;call 3 to 4 at 998 lasts 1;"
                + "call 6 to 0 at 999 lasts 1;");
        Check.refused("weddings(0)", Check.ARGUMENT, () -> x.weddings(0));
        Check.due("weddings(1)", x.weddings(1), 1);
        Check.due("weddings(998)", x.weddings(998), 1);
        Check.due("weddings(999)", x.weddings(999), 2);
        Check.refused("weddings(1000)", Check.ARGUMENT, () -> x.weddings(1000));
        x.minutes(1);
        Check.due("weddings(999) from 1 on", x.weddings(999), 3);
    }

    private static void weddingsOfBefore() {
        Check.sentence(21, "those of before, too");
        CrossedLines x = Check.told("lines 6;cord;slips:1;marries:1=1;call 0 to 1 at 0 lasts 1;call 3 to 4 at 9 lasts 1;");
        x.minutes(5);
        Check.due("one of before", x.weddings(1), 1);
        Check.due("and one more", x.weddings(5), 2);
        x.minutes(9);
        Check.due("two of before", x.weddings(999), 2);
        Check.due("nobody", new CrossedLines().weddings(999), 0);
    }

    // ---- promise 22

    private static void busiestFrom1To999() {
        Check.sentence(22, "The MINUTE of the next n (1 to 999)");
        CrossedLines x = Check.told("lines 4;cord;cord;call 0 to 1 at 998 lasts 2;call 2 to 3 at 999 lasts 1;");
        Check.refused("busiest(0)", Check.ARGUMENT, () -> x.busiest(0));
        Check.due("busiest(1)", x.busiest(1), 0);
        Check.due("busiest(998)", x.busiest(998), 0);
        Check.due("busiest(999)", x.busiest(999), 998);
        Check.refused("busiest(1000)", Check.ARGUMENT, () -> x.busiest(1000));
        x.minutes(1);
        Check.due("busiest(998) from 1 on", x.busiest(998), 997);
        Check.due("busiest(999) from 1 on", x.busiest(999), 998);
    }

    private static void busiestAtTheEnd() {
        Check.sentence(22, "at whose end most CORDS are in use");
        CrossedLines x = Check.told("lines 6;cord;cord;cord;call 0 to 1 at 2 lasts 2;call 2 to 3 at 4 lasts 1;"
                + "call 4 to 5 at 5 lasts 2;call 2 to 3 at 6 lasts 1;");
        Check.due("one that ends where another begins isn't with it", x.busiest(5), 2);
        Check.due("two to the end of 6", x.busiest(7), 6);
        CrossedLines lost = Check.told("lines 4;cord;call 0 to 1 at 2 lasts 1;call 2 to 3 at 2 lasts 1;");
        Check.due("a lost one is in no use", lost.busiest(9), 2);
    }

    private static void busiestFirst() {
        Check.sentence(22, "most CORDS are in use, the first");
        CrossedLines x = Check.told("lines 4;cord;cord;call 2 to 3 at 7 lasts 1;call 0 to 1 at 7 lasts 1;call 0 to 1 at 3 lasts 1;"
                + "call 2 to 3 at 3 lasts 3;");
        Check.due("of two minutes with two the first", x.busiest(99), 3);
        Check.due("with one in reach", x.busiest(4), 3);
        Check.due("with none in reach", x.busiest(3), 0);
    }

    private static void busiestThisMinute() {
        Check.sentence(22, "in how many MINUTES (0: this one)");
        CrossedLines x = Check.told("lines 4;cord;cord;call 0 to 1 at 0 lasts 3;call 2 to 3 at 3 lasts 1;");
        Check.due("this one", x.busiest(9), 0);
        x.minutes(1);
        Check.due("still on, so this one", x.busiest(9), 0);
        x.minutes(2);
        Check.due("over in this one, where another begins", x.busiest(9), 0);
        Check.due("nothing at all", new CrossedLines().busiest(999), 0);
        CrossedLines y = Check.told("lines 4;cord;cord;call 0 to 1 at 0 lasts 1;call 2 to 3 at 2 lasts 1;");
        y.minutes(1);
        Check.due("over in this one, so the next", y.busiest(9), 1);
        CrossedLines pulled = Check.told("lines 4;cord;cord;call 0 to 1 at 0 lasts 9;call 2 to 3 at 2 lasts 1;");
        pulled.minutes(1);
        pulled.pull(0);
        Check.due("a pulled one is in no use", pulled.busiest(9), 1);
        CrossedLines late = Check.told("lines 4;cord;call 0 to 1 at 0 lasts 99;call 2 to 3 at 12 lasts 1;");
        late.minutes(1);
        Check.due("while one is on", late.busiest(20), 0);
        late.pull(0);
        Check.due("behind a pulled one", late.busiest(20), 11);
    }

    // ---- promise 23

    private static void hogFewest() {
        Check.sentence(23, "The CALL to come without which (it never beginning) fewest others are LOST");
        CrossedLines x = Check.told("lines 8;cord;call 0 to 1 at 0 lasts 2;call 2 to 3 at 1 lasts 1;call 4 to 5 at 3 lasts 3;"
                + "call 0 to 1 at 4 lasts 1;call 2 to 3 at 5 lasts 1;");
        Check.due("3 are lost", x.lost(9), 3);
        Check.due("without 2 but 1", x.hog(9), 2);
        Check.due("till 4, without 0 none", x.hog(4), 0);
    }

    private static void hogFewer() {
        Check.sentence(23, "if fewer of these others than with it");
        CrossedLines x = Check.told("lines 6;cord;call 0 to 1 at 1 lasts 1;call 2 to 3 at 0 lasts 3;call 4 to 5 at 2 lasts 1;");
        Check.due("without a lost one no fewer others: the one that has the cord", x.hog(9), 1);
        CrossedLines even = Check.told("lines 6;cord;call 0 to 1 at 0 lasts 2;call 2 to 3 at 1 lasts 3;call 4 to 5 at 3 lasts 1;");
        Check.due("without 0 one other is lost in place of one", even.lost(9), 1);
        Check.due("so none", even.hog(9), -1);
    }

    private static void hogOthers() {
        Check.sentence(23, "fewest others are LOST");
        CrossedLines x = Check.told("lines 2;call 0 to 1 at 0 lasts 1;call 1 to 0 at 5 lasts 1;");
        Check.due("a lost one isn't one of the others", x.hog(9), -1);
        CrossedLines before = Check.told("lines 4;cord;call 0 to 1 at 0 lasts 1;call 0 to 1 at 3 lasts 2;call 2 to 3 at 4 lasts 1;"
                + "minute 2;");
        Check.due("nor is one that was lost before", before.hog(9), 1);
    }

    private static void hogFirst() {
        Check.sentence(23, "than with it, the first; NONE: none.");
        CrossedLines x = Check.told("lines 4;cord;call 2 to 3 at 9 lasts 1;call 0 to 1 at 5 lasts 2;call 2 to 3 at 6 lasts 1;"
                + "call 0 to 1 at 0 lasts 2;call 2 to 3 at 1 lasts 1;");
        Check.due("of like ones that of the least number", x.hog(99), 1);
        Check.due("the other one in reach", x.hog(5), 3);
    }

    private static void hogInTheNext() {
        Check.sentence(23, "LOST in the next n MINUTES");
        CrossedLines x = Check.told("lines 4;cord;call 0 to 1 at 0 lasts 99;call 2 to 3 at 50 lasts 1;");
        Check.due("hog(50)", x.hog(50), -1);
        Check.due("hog(51)", x.hog(51), 0);
        CrossedLines far = Check.told("lines 4;cord;call 0 to 1 at 997 lasts 99;call 2 to 3 at 998 lasts 1;");
        Check.due("hog(998)", far.hog(998), -1);
        Check.due("hog(999)", far.hog(999), 0);
        CrossedLines farther = Check.told("lines 4;cord;call 0 to 1 at 998 lasts 99;call 2 to 3 at 999 lasts 1;");
        Check.due("hog(999), one minute short", farther.hog(999), -1);
        Check.refused("hog(0)", Check.ARGUMENT, () -> x.hog(0));
        Check.refused("hog(1000)", Check.ARGUMENT, () -> x.hog(1000));
        Check.due("hog(1)", x.hog(1), -1);
    }

    private static void hogNone() {
        Check.sentence(23, "NONE: none.");
        Check.due("no calls", new CrossedLines().hog(999), -1);
        Check.due("none lost", Check.told("lines 2;cord;call 0 to 1 at 0 lasts 1;").hog(999), -1);
        CrossedLines on = Check.told("lines 4;cord;call 0 to 1 at 0 lasts 9;call 2 to 3 at 1 lasts 1;");
        Check.due("one to come", on.hog(9), 0);
        on.minutes(1);
        Check.due("one that is on is none to come", on.hog(9), -1);
    }

    private static void afterManyMinutes() {
        Check.sentence(0, "(3) MINUTE is 1 more.");
        CrossedLines x = Check.told("lines 4;cord;minute 999;slips:minute;");
        for (int i = 0; i < 30; i++) {
            x.minutes(99);
        }
        Check.due("the minute", x.count(9), 999 + 30 * 99);
        x.dial(0, 1, 9);
        x.dial(2, 3, 9);
        int slip = (999 + 30 * 99) % 60;
        Check.due("slips go on", x.comesTo(0, 0), (1 + slip) % 4);
        Check.due("one is lost", x.lost(999), 1);
        Check.due("the one", x.firstLost(), 1);
        Check.due("together", x.together(0, (1 + slip) % 4), 0);
    }
}
