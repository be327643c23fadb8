/** Two objects told the same, one of which is asked something besides: what that changed shows in all that follows. */
final class Twins {
    interface Setting {
        void tell(CrossedLines x);
    }

    interface Asking {
        long answer(CrossedLines x);
    }

    private Twins() {
    }

    /** A call that is refused throws, and nothing is changed. */
    static void refused(String what, Class<? extends RuntimeException> kind, Setting setting, Asking asking) {
        CrossedLines asked = told(setting);
        Check.refused(what, kind, () -> asking.answer(asked));
        Check.same(what + ": all behind it", Look.at(asked), Look.at(told(setting)));
    }

    /** A call answers, and nothing is changed. */
    static void unchanged(String what, long want, Setting setting, Asking asking) {
        CrossedLines asked = told(setting);
        Check.due(what, asking.answer(asked), want);
        Check.same(what + ": all behind it", Look.at(asked), Look.at(told(setting)));
    }

    /** Two settings come to the same. */
    static void alike(String what, Setting one, Setting other) {
        Check.same(what, Look.at(told(one)), Look.at(told(other)));
    }

    private static CrossedLines told(Setting setting) {
        CrossedLines x = new CrossedLines();
        setting.tell(x);
        return x;
    }

    /**
     * An exchange with something of everything: calls of each state, two lines married, doors shut, deeds to undo,
     * a tape, a fault, trays told (3 is missing), images made (1 is not).
     */
    static void rich(CrossedLines x) {
        Check.exchange(x, "lines 6;cord 0 1 2 3;cord;slips:call-1;likes:who*2-whom;marries:likes>0-9;"
                + "call 0 to 1 at 0 lasts 3;call 2 to 3 at 0 lasts 9;call 4 to 5 at 2 lasts 4;"
                + "call 1 to 5 at 40 lasts 2;call 3 to 4 at 41 lasts 2;");
        x.minutes(3);
        x.image(0);
        x.door(5);
        x.pull(1);
        x.dial(3, 1, 7);
        x.image(2);
        x.door(2);
        x.minutes(2);
        Check.tray(x, 0, 35, -1, 100, 206, -1);
        Check.tray(x, 1, 1, 4, 3, 0);
        Check.tray(x, 2, 1, 5, 1, 3, 4, 2);
        Check.exchange(x, "lines 2;cord 0 7;");
        x.feed(0x6c696e65, 0x7320333b, 0x20202020, 0x20202020, 0x20202020);
    }
}
