/** All that can be told of an object, as a text; the looking undoes deeds and restores images, so it comes last. */
final class Look {
    private final CrossedLines x;
    private final StringBuilder told = new StringBuilder();

    private Look(CrossedLines x) {
        this.x = x;
    }

    /** In fewer than 420 calls. */
    static String at(CrossedLines x) {
        Look look = new Look(x);
        look.state();
        look.trays();
        look.deeds();
        for (int i = 0; i < 3; i++) {
            look.image(i);
        }
        return look.told.toString();
    }

    private void add(long v) {
        told.append(v).append(' ');
    }

    private void add(String name, Check.Call call) {
        told.append(name).append(' ');
        try {
            add(call.answer());
        } catch (RuntimeException e) {
            told.append(e.getClass().getSimpleName()).append(' ');
        }
    }

    private void state() {
        for (int what = 0; what < 12; what++) {
            add(x.count(what));
        }
        told.append("fault ");
        add(x.fault(0));
        add(x.fault(1));
        for (int l = 0; l < x.count(1); l++) {
            told.append("line ");
            add(x.line(l, 0));
            add(x.line(l, 1));
            add(x.line(l, 2));
            add(x.likes(l, 1));
        }
        for (int k = 0; k < x.count(2); k++) {
            told.append("cord ");
            add(x.cord(k, 0));
            add(x.cord(k, 1));
        }
        for (int c = 0; c < x.count(3); c++) {
            told.append("call ");
            for (int what = 0; what < 7; what++) {
                add(x.call(c, what));
            }
            add(x.comesTo(c, 7));
        }
        told.append("pairs ");
        add(x.leave());
        add(x.stable());
        add(x.weddings(99));
        add(x.best(1));
    }

    private void trays() {
        for (int i = 0; i < 4; i++) {
            int tray = i;
            add("tray", () -> x.judge(tray, 0));
            for (int what = 1; what < 4; what++) {
                int asked = what;
                add("judge", () -> x.judge(tray, asked));
            }
            add("crossings", () -> x.crossings(tray));
            add("rules", () -> x.rules(tray));
            add("rule", () -> x.rule(tray, 0));
        }
    }

    private void deeds() {
        for (int i = 0; i < 10 && x.count(10) > 0; i++) {
            told.append("undone ");
            x.undo(1);
            brief();
        }
    }

    private void brief() {
        for (int what = 3; what < 11; what++) {
            add(x.count(what));
        }
    }

    private void image(int i) {
        add("image", () -> back(i));
        brief();
        for (int l = 0; l < x.count(1); l++) {
            add(x.line(l, 1));
            add(x.line(l, 2));
        }
        add("undo", () -> x.undo(1));
        brief();
    }

    private long back(int i) {
        x.restore(i);
        return 0;
    }
}
