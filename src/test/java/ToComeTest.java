/** Promises 18 to 23: what comes, nothing else being done. */
public final class ToComeTest {
    private static final String BUSY_TEXT = "lines 4;cord;cord 0 1;call 0 to 1 at 2 lasts 5;call 2 to 3 at 3 lasts 4;"
            + "call 1 to 2 at 4 lasts 1;call 0 to 2 at 8 lasts 3;minute 1;";

    public static void main(String[] args) {
        lost();
        firstLost();
        together();
        weddings();
        busiest();
        hog();
        bounds();
        Check.end();
    }

    private static void lost() {
        CrossedLines x = Check.told(BUSY_TEXT);
        int[] want = {0, 0, 1, 2, 2, 2};
        for (int n = 1; n <= want.length; n++) {
            Check.due("lost(" + n + ")", x.lost(n), want[n - 1]);
        }
        Check.due("nothing is done", x.count(9), 1);
        Check.due("lost ones of before don't count", Check.told("lines 2;cord;call 0 to 1 at 0 lasts 1;minute 1;").lost(999), 0);
        CrossedLines far = Check.told("lines 2;call 0 to 1 at 998 lasts 1;call 0 to 1 at 999 lasts 1;");
        Check.due("lost(998)", far.lost(998), 0);
        Check.due("lost(999)", far.lost(999), 1);
        Check.due("firstLost() that far", far.firstLost(), 0);
    }

    private static void firstLost() {
        Check.due("the first minute", Check.told("lines 2;call 0 to 1 at 9 lasts 1;call 0 to 1 at 8 lasts 1;"
                + "call 1 to 0 at 8 lasts 1;").firstLost(), 1);
        Check.due("in the last minute", Check.told("lines 2;call 0 to 1 at 999 lasts 1;").firstLost(), 0);
        Check.due("none is", Check.told("lines 2;cord;call 0 to 1 at 999 lasts 1;").firstLost(), -1);
        Check.due("of before", Check.told("lines 2;call 0 to 1 at 0 lasts 1;minute 2;").firstLost(), -1);
    }

    private static void together() {
        CrossedLines x = Check.told("lines 4;cord;call 0 to 1 at 3 lasts 2;call 3 to 2 at 9 lasts 1;call 2 to 3 at 20 lasts 1;"
                + "call 0 to 2 at 4 lasts 1;");
        Check.due("together(1, 0)", x.together(1, 0), 3);
        Check.due("together(2, 3)", x.together(2, 3), 9);
        Check.due("together(0, 2)", x.together(0, 2), -1);
        x.minutes(5);
        Check.due("they are, to the last", x.together(0, 1), 0);
        Check.due("from here on", x.together(2, 3), 4);
        x.minutes(1);
        Check.due("no more", x.together(0, 1), -1);
        Check.due("by a slip", Check.told("lines 4;cord;slips:2;call 0 to 1 at 3 lasts 2;").together(3, 0), 3);
        Check.due("not as meant", Check.told("lines 4;cord;slips:2;call 0 to 1 at 3 lasts 2;").together(1, 0), -1);
        Check.refused("together(4, 4)", Check.ELEMENT, () -> x.together(4, 4));
        Check.refused("together(0, -1)", Check.ELEMENT, () -> x.together(0, -1));
        Check.refused("together(3, 3)", Check.ARGUMENT, () -> x.together(3, 3));
    }

    private static void weddings() {
        CrossedLines x = Check.told("lines 6;cord;slips:1;marries:1=1;call 0 to 1 at 0 lasts 1;call 1 to 2 at 2 lasts 1;"
                + "call 4 to 5 at 5 lasts 1;call 4 to 4 at 1 lasts 1;".replace("4 to 4", "5 to 3"));
        int[] want = {1, 2, 3, 3};
        for (int n = 1; n <= 4; n++) {
            Check.due("weddings(" + n + ")", x.weddings(n), want[n - 1]);
        }
        Check.due("nobody is yet", x.count(8), 0);
        x.minutes(2);
        Check.due("those of before, too", x.weddings(1), 3);
    }

    private static void busiest() {
        CrossedLines x = Check.told(BUSY_TEXT);
        Check.due("busiest(1)", x.busiest(1), 0);
        Check.due("busiest(2)", x.busiest(2), 1);
        CrossedLines y = Check.told("lines 6;cord;cord;cord;call 0 to 1 at 9 lasts 1;call 2 to 3 at 4 lasts 6;"
                + "call 4 to 5 at 6 lasts 2;call 4 to 5 at 8 lasts 1;");
        Check.due("the first of like ones", y.busiest(20), 6);
        y.minutes(5);
        Check.due("from here on", y.busiest(1), 0);
        Check.due("two", y.busiest(20), 1);
        y.minutes(5);
        Check.due("both are over in this minute", y.busiest(5), 0);
        Check.due("nothing at all", new CrossedLines().busiest(999), 0);
    }

    private static void hog() {
        CrossedLines x = Check.told(BUSY_TEXT);
        Check.due("hog(2)", x.hog(2), -1);
        Check.due("hog(3)", x.hog(3), 0);
        Check.due("nothing is done", x.count(4), 4);
        CrossedLines y = Check.told("lines 6;cord;call 0 to 1 at 0 lasts 2;call 2 to 3 at 1 lasts 1;"
                + "call 4 to 5 at 3 lasts 9;call 0 to 1 at 4 lasts 1;call 2 to 3 at 5 lasts 1;");
        Check.due("the one that costs most", y.hog(99), 2);
        Check.due("ahead of that", y.hog(3), 0);
        CrossedLines z = Check.told("lines 6;cord;call 2 to 3 at 1 lasts 1;call 4 to 5 at 1 lasts 1;call 0 to 1 at 0 lasts 2;");
        Check.due("without it one gets through", z.hog(9), 2);
        CrossedLines even = Check.told("lines 6;cord;call 0 to 1 at 0 lasts 2;call 2 to 3 at 1 lasts 1;"
                + "call 4 to 5 at 3 lasts 2;call 0 to 1 at 4 lasts 1;");
        Check.due("the first of like ones", even.hog(99), 0);
        CrossedLines none = Check.told("lines 3;call 0 to 1 at 0 lasts 2;call 1 to 2 at 0 lasts 2;");
        Check.due("none helps", none.hog(9), -1);
        CrossedLines on = Check.told("lines 4;cord;call 0 to 1 at 0 lasts 9;call 2 to 3 at 1 lasts 1;");
        on.minutes(1);
        Check.due("one that is on is none to come", on.hog(9), -1);
    }

    private static void bounds() {
        CrossedLines x = new CrossedLines();
        for (int n : new int[] {Integer.MIN_VALUE, -1, 0, 1000, Integer.MAX_VALUE}) {
            Check.refused("lost(" + n + ")", Check.ARGUMENT, () -> x.lost(n));
            Check.refused("weddings(" + n + ")", Check.ARGUMENT, () -> x.weddings(n));
            Check.refused("busiest(" + n + ")", Check.ARGUMENT, () -> x.busiest(n));
            Check.refused("hog(" + n + ")", Check.ARGUMENT, () -> x.hog(n));
        }
        Check.due("lost(999)", x.lost(999), 0);
        Check.due("weddings(999)", x.weddings(999), 0);
        Check.due("hog(999)", x.hog(999), -1);
    }
}
