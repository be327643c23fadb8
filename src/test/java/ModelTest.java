import java.util.ArrayDeque;
import java.util.ArrayList;
import java.util.Arrays;
import java.util.Collections;
import java.util.Deque;
import java.util.List;
import java.util.Random;

/** Random exchanges and deeds, each answer compared with the plain model's. */
public final class ModelTest {
    private static final int RUNS = 1500;
    // An object is used for at most 512 calls; one round of deeds and questions takes fewer than 250.
    private static final int LAST_ROUND = 260;

    private final Random random;
    private final String text;
    private final CrossedLines x;
    private Model model;
    /** The models as they were ahead of each deed that can be undone, the latest first; none of these ever changes. */
    private Deque<Model> undone = new ArrayDeque<>();
    private final Model[] images = new Model[3];
    private final List<Deque<Model>> imagesUndone = new ArrayList<>();
    private int calls = 0;
    private int draw = 0;

    private ModelTest(long seed) {
        random = new Random(seed);
        text = new Texts(random).exchange();
        x = Check.told(text);
        calls = (text.length() + 19) / 20 + 1;
        model = new Model(text);
        for (int i = 0; i < images.length; i++) {
            imagesUndone.add(null);
        }
    }

    public static void main(String[] args) {
        for (int seed = 0; seed < RUNS; seed++) {
            new ModelTest(seed).run();
        }
        Check.end();
    }

    private void due(String what, long got, long want) {
        calls++;
        Check.due(text + " " + what, got, want);
    }

    private void run() {
        if (random.nextInt(4) == 0) {
            pairs();
        }
        while (calls < LAST_ROUND) {
            for (int i = random.nextInt(6); i >= 0; i--) {
                deed();
            }
            state();
            toCome();
            judge();
            copy();
            cords();
            atOnce();
            crossed();
            rules();
        }
        Check.due("at most 512 calls", calls <= 512, true);
    }

    // ---- deeds

    private void deed() {
        int sort = random.nextInt(17);
        if (sort < 5) {
            Model before = new Model(model);
            int n = 1 + random.nextInt(5);
            due("minutes(" + n + ")", x.minutes(n), model.steps(n));
            keep(before);
        } else if (sort < 8) {
            Model before = new Model(model);
            int l = random.nextInt(model.lines);
            model.told(100 + l);
            due("door(" + l + ")", x.door(l), model.shut[l] ? 1 : 0);
            keep(before);
        } else if (sort < 10) {
            dial();
        } else if (sort < 12) {
            pull();
        } else if (sort == 12) {
            undo();
        } else if (sort == 13) {
            perform();
        } else if (sort == 14) {
            spring();
        } else {
            image(random.nextInt(3));
        }
    }

    private void keep(Model before) {
        undone.push(before);
        if (undone.size() > 10) {
            undone.removeLast();
        }
    }

    private void dial() {
        int l = random.nextInt(10) - 1;
        int m = random.nextInt(10) - 1;
        int lasts = random.nextInt(15);
        boolean wrong = l < 0 || m < 0 || l >= model.lines || m >= model.lines || l == m || lasts == 0;
        String what = "dial(" + l + ", " + m + ", " + lasts + ")";
        if (wrong || model.calls.size() == 10) {
            due(what, x.dial(l, m, lasts), wrong ? -1 : -2);
            return;
        }
        keep(new Model(model));
        due(what, x.dial(l, m, lasts), model.calls.size());
        model.calls.add(new int[] {l, m, model.minute, lasts, 0, -1, -1});
    }

    private void pull() {
        int c = random.nextInt(12) - 1;
        int why = c < 0 ? 1 : model.whyNot(200 + c);
        if (why != 0) {
            due("pull(" + c + ")", x.pull(c), -10 - why);
            return;
        }
        keep(new Model(model));
        due("pull(" + c + ")", x.pull(c), model.calls.get(c)[6]);
        model.told(200 + c);
    }

    private void undo() {
        if (undone.isEmpty()) {
            Check.refused(text + " undo(1)", Check.ARGUMENT, () -> x.undo(1));
            calls++;
            return;
        }
        int n = 1 + random.nextInt(undone.size());
        due("undo(" + n + ")", x.undo(n), undone.size() - n);
        for (int i = 0; i < n; i++) {
            model = new Model(undone.pop());
        }
    }

    private void perform() {
        long[] told = toldDeeds();
        int done = 0;
        while (done < told.length && model.whyNot(told[done]) == 0) {
            keep(new Model(model));
            model.told(told[done]);
            done++;
        }
        due("perform of " + Arrays.toString(told), x.perform(2), done);
    }

    /** Random told deeds in tray 2, as they are there. */
    private long[] toldDeeds() {
        int sort = random.nextInt(4);
        long[] told = new long[random.nextInt(10)];
        x.tray(2, sort, told.length);
        calls++;
        for (int i = 0; i < told.length; i++) {
            long v = switch (random.nextInt(9)) {
                case 0, 1, 2 -> -1;
                case 3, 4 -> 10 * random.nextInt(model.lines) + random.nextInt(model.lines);
                case 5 -> 100 + random.nextInt(model.lines);
                case 6 -> 200 + Math.max(0, model.callOn(random.nextInt(3)));
                case 7 -> random.nextInt(320) - 10;
                default -> random.nextLong() << 32 | 101;
            };
            told[i] = sort == 0 ? (byte) v : sort == 1 ? (short) v : sort == 2 ? (int) v : v;
            due("write(2, " + i + ", " + v + ")", x.write(2, i, v), told[i]);
        }
        return told;
    }

    private int draw(int modulo) {
        draw = draw * 1103515245 + 12345;
        return (draw >>> 16) % modulo;
    }

    private void spring() {
        int seed = random.nextInt();
        int times = 1 + random.nextInt(12);
        draw = seed;
        int done = 0;
        for (int i = 0; i < times; i++) {
            int told = switch (draw(5)) {
                case 2 -> 10 * draw(model.lines) + draw(model.lines);
                case 3 -> 100 + draw(model.lines);
                case 4 -> 200 + draw(10);
                default -> -1;
            };
            if (model.whyNot(told) == 0) {
                keep(new Model(model));
                model.told(told);
                done++;
            }
        }
        due("spring(" + seed + ", " + times + ")", x.spring(seed, times), done);
    }

    /** An image is made, or all is as in one that was made. */
    private void image(int i) {
        calls++;
        if (images[i] == null && random.nextInt(4) == 0) {
            Check.refused(text + " restore(" + i + ")", Check.STATE, () -> {
                x.restore(i);
                return 0;
            });
        } else if (images[i] == null || random.nextBoolean()) {
            x.image(i);
            images[i] = new Model(model);
            imagesUndone.set(i, new ArrayDeque<>(undone));
        } else {
            x.restore(i);
            model = new Model(images[i]);
            undone = new ArrayDeque<>(imagesUndone.get(i));
        }
    }

    // ---- answers

    private void state() {
        due("count(9)", x.count(9), model.minute);
        due("count(10)", x.count(10), undone.size());
        due("count(8)", x.count(8), model.twos());
        for (int s = 0; s < 4; s++) {
            due("count of state " + s, x.count(4 + s), model.tally(s));
        }
        for (int c = 0; c < model.calls.size(); c++) {
            for (int what = 0; what < 7; what++) {
                due("call(" + c + ", " + what + ")", x.call(c, what), model.calls.get(c)[what]);
            }
            int n = random.nextInt(1000);
            due("comesTo(" + c + ", " + n + ")", x.comesTo(c, n), model.whereTo(c, model.minute + n));
        }
        for (int l = 0; l < model.lines; l++) {
            due("line(" + l + ", 0)", x.line(l, 0), model.speaksWith(l));
            due("line(" + l + ", 1)", x.line(l, 1), model.spouse[l]);
            due("line(" + l + ", 2)", x.line(l, 2), model.shut[l] ? 1 : 0);
        }
        for (int k = 0; k < model.reach.size(); k++) {
            due("cord(" + k + ", 0)", x.cord(k, 0), model.reach.get(k));
            due("cord(" + k + ", 1)", x.cord(k, 1), model.callOn(k));
        }
        due("leave()", x.leave(), model.leaves(model.spouse));
    }

    private void toCome() {
        int n = 1 + random.nextInt(40);
        due("lost(" + n + ")", x.lost(n), new Model(model).steps(n));
        Model later = new Model(model);
        later.steps(n);
        due("weddings(" + n + ")", x.weddings(n), later.twos());
        due("busiest(" + n + ")", x.busiest(n), model.busiest(n));
        due("hog(" + n + ")", x.hog(n), model.hog(n));
        due("firstLost()", x.firstLost(), model.firstLost());
        int l = random.nextInt(model.lines);
        int m = (l + 1 + random.nextInt(model.lines - 1)) % model.lines;
        due("together(" + l + ", " + m + ")", x.together(l, m), model.together(l, m));
    }

    private void judge() {
        long[] told = toldDeeds();
        judged("judge of " + Arrays.toString(told), 2, told);
    }

    private void judged(String what, int tray, long[] told) {
        int[] want = model.judged(told);
        for (int i = 0; i < want.length; i++) {
            due(what + " " + i, x.judge(tray, i), want[i]);
        }
    }

    /** What was copied is told by what the numbers say as deeds, and as threes that were seen. */
    private void copy() {
        int many = random.nextInt(31);
        x.tray(3, random.nextInt(4), many);
        calls++;
        long[] want = model.uses(many);
        due("copy", x.copy(3), many);
        String what = "copied " + Arrays.toString(want);
        judged(what, 3, want);
        boolean areLines = Arrays.stream(want).allMatch(v -> v < model.lines);
        if (many % 3 == 0 && many >= 3 && many <= 15 && areLines) {
            due(what + " as threes", x.rules(3), model.rules(want).size());
        }
    }

    private void atOnce() {
        due("enough()", x.enough(), model.enough());
        due("darlings()", x.darlings(), model.darlings());
        List<Integer> all = new ArrayList<>();
        for (int l = 0; l < model.lines; l++) {
            all.add(l);
        }
        Collections.shuffle(all, random);
        int[] twos = new int[2 + 2 * random.nextInt(Math.min(3, model.lines / 2))];
        Arrays.setAll(twos, all::get);
        Check.tray(x, 1, Arrays.stream(twos).asLongStream().toArray());
        calls += 1 + twos.length;
        due("atOnce of " + Arrays.toString(twos), x.atOnce(1) ? 1 : 0, model.atOnce(twos) ? 1 : 0);
    }

    private void cords() {
        int best = model.best(-1);
        due("best(0)", x.best(0), best % 1000);
        due("best(1)", x.best(1), best / 1000);
        int cords = random.nextInt(4);
        due("bestBy(" + cords + ")", x.bestBy(cords), model.best(cords) % 1000);
    }

    private void crossed() {
        int[] twos = new int[2 + 2 * random.nextInt(3)];
        for (int i = 0; i < twos.length; i += 2) {
            twos[i] = random.nextInt(model.lines);
            twos[i + 1] = (twos[i] + 1 + random.nextInt(model.lines - 1)) % model.lines;
        }
        Check.tray(x, 0, Arrays.stream(twos).asLongStream().toArray());
        calls += 1 + twos.length;
        List<int[]> ways = model.crossings(twos);
        due("crossings of " + Arrays.toString(twos), x.crossings(0), ways.size());
        for (int i = 0; i < twos.length / 2; i++) {
            due("crossed of " + Arrays.toString(twos) + " " + i, x.crossed(0, i), ways.isEmpty() ? -1 : ways.get(0)[i]);
        }
    }

    private void rules() {
        long[] threes = new long[3 + 3 * random.nextInt(3)];
        int u = random.nextInt(model.lines);
        int v = random.nextInt(model.lines);
        for (int i = 0; i < threes.length; i += 3) {
            threes[i] = random.nextInt(model.lines);
            threes[i + 1] = random.nextInt(model.lines);
            boolean isOdd = random.nextInt(9) == 0;
            threes[i + 2] = isOdd ? random.nextInt(model.lines) : (u * threes[i] + threes[i + 1] + v) % model.lines;
        }
        Check.tray(x, 1, threes);
        calls += 1 + threes.length;
        List<Integer> rules = model.rules(threes);
        String told = " of " + Arrays.toString(threes);
        due("rules" + told, x.rules(1), rules.size());
        int k = random.nextInt(rules.size() + 2);
        due("rule " + k + told, x.rule(1, k), k < rules.size() ? rules.get(k) : -1);
        due("ask" + told, x.ask(1), model.ask(rules));
    }

    private void pairs() {
        for (int l = 0; l < model.lines; l++) {
            for (int m = 0; m < model.lines; m++) {
                due("likes(" + l + ", " + m + ")", x.likes(l, m), model.liking(l, m));
            }
        }
        int stable = 0;
        int[] first = null;
        int[] happy = null;
        int most = 0;
        for (int[] with : model.pairings()) {
            if (model.leaves(with) < 0) {
                stable++;
                first = first == null ? with : first;
            }
            int sum = 0;
            for (int l = 0; l < model.lines; l++) {
                sum += with[l] < 0 ? 0 : model.liking(l, with[l]);
            }
            if (happy == null || sum > most) {
                happy = with;
                most = sum;
            }
        }
        due("stable()", x.stable(), stable);
        due("happiest(0)", x.happiest(0), most);
        for (int l = 0; l < model.lines; l++) {
            due("partner(" + l + ")", x.partner(l), first == null ? -1 : first[l]);
            due("happiest(1" + l + ")", x.happiest(10 + l), happy == null ? -1 : happy[l]);
        }
    }
}
