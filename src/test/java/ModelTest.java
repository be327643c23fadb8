import java.util.ArrayDeque;
import java.util.Arrays;
import java.util.Deque;
import java.util.List;
import java.util.Random;

/** Random exchanges and deeds, each answer compared with the plain model's. */
public final class ModelTest {
    private static final int RUNS = 1500;
    // An object is used for at most 512 calls; one round of questions takes fewer than 150.
    private static final int LAST_ROUND = 350;

    private final Random random;
    private final String text;
    private final CrossedLines x;
    private Model model;
    private final Deque<Model> undone = new ArrayDeque<>();
    private int calls = 0;

    private ModelTest(long seed) {
        random = new Random(seed);
        text = new Texts(random).exchange();
        x = Check.told(text);
        model = new Model(text);
    }

    public static void main(String[] args) {
        for (int seed = 0; seed < RUNS; seed++) {
            new ModelTest(seed).run();
        }
        Check.end();
    }

    private void due(String what, long got, long want) {
        calls++;
        Check.due(text + " " + what, got, want);
    }

    private void run() {
        if (random.nextInt(4) == 0) {
            pairs();
        }
        while (calls < LAST_ROUND) {
            for (int i = random.nextInt(6); i >= 0; i--) {
                deed();
            }
            state();
            toCome();
            cords();
            crossed();
            rules();
        }
    }

    // ---- deeds

    private void deed() {
        int sort = random.nextInt(12);
        if (sort == 0 && !undone.isEmpty()) {
            int n = 1 + random.nextInt(undone.size());
            due("undo(" + n + ")", x.undo(n), undone.size() - n);
            for (int i = 0; i < n; i++) {
                model = undone.pop();
            }
            return;
        }
        Model before = new Model(model);
        if (sort < 5) {
            int n = 1 + random.nextInt(5);
            due("minutes(" + n + ")", x.minutes(n), model.steps(n));
        } else if (sort < 8) {
            int l = random.nextInt(model.lines);
            model.shut[l] = !model.shut[l];
            due("door(" + l + ")", x.door(l), model.shut[l] ? 1 : 0);
        } else if (sort < 10 && model.calls.size() < 10) {
            int l = random.nextInt(model.lines);
            int m = (l + 1 + random.nextInt(model.lines - 1)) % model.lines;
            int lasts = 1 + random.nextInt(12);
            due("dial", x.dial(l, m, lasts), model.calls.size());
            model.calls.add(new int[] {l, m, model.minute, lasts, 0, -1, -1});
        } else {
            int c = model.callOn(0);
            if (c < 0) {
                return;
            }
            model.calls.get(c)[4] = 2;
            due("pull(" + c + ")", x.pull(c), 0);
        }
        undone.push(before);
        if (undone.size() > 10) {
            undone.removeLast();
        }
    }

    // ---- answers

    private void state() {
        due("count(9)", x.count(9), model.minute);
        due("count(10)", x.count(10), undone.size());
        due("count(8)", x.count(8), model.twos());
        for (int s = 0; s < 4; s++) {
            due("count of state " + s, x.count(4 + s), model.tally(s));
        }
        for (int c = 0; c < model.calls.size(); c++) {
            for (int what = 0; what < 7; what++) {
                due("call(" + c + ", " + what + ")", x.call(c, what), model.calls.get(c)[what]);
            }
            int n = random.nextInt(1000);
            due("comesTo(" + c + ", " + n + ")", x.comesTo(c, n), model.whereTo(c, model.minute + n));
        }
        for (int l = 0; l < model.lines; l++) {
            due("line(" + l + ", 0)", x.line(l, 0), model.speaksWith(l));
            due("line(" + l + ", 1)", x.line(l, 1), model.spouse[l]);
            due("line(" + l + ", 2)", x.line(l, 2), model.shut[l] ? 1 : 0);
        }
        for (int k = 0; k < model.reach.size(); k++) {
            due("cord(" + k + ", 0)", x.cord(k, 0), model.reach.get(k));
            due("cord(" + k + ", 1)", x.cord(k, 1), model.callOn(k));
        }
        due("leave()", x.leave(), model.leaves(model.spouse));
    }

    private void toCome() {
        int n = 1 + random.nextInt(40);
        due("lost(" + n + ")", x.lost(n), new Model(model).steps(n));
        Model later = new Model(model);
        later.steps(n);
        due("weddings(" + n + ")", x.weddings(n), later.twos());
        due("busiest(" + n + ")", x.busiest(n), model.busiest(n));
        due("hog(" + n + ")", x.hog(n), model.hog(n));
        due("firstLost()", x.firstLost(), model.firstLost());
        int l = random.nextInt(model.lines);
        int m = (l + 1 + random.nextInt(model.lines - 1)) % model.lines;
        due("together(" + l + ", " + m + ")", x.together(l, m), model.together(l, m));
    }

    private void cords() {
        int best = model.best(-1);
        due("best(0)", x.best(0), best % 1000);
        due("best(1)", x.best(1), best / 1000);
        int cords = random.nextInt(4);
        due("bestBy(" + cords + ")", x.bestBy(cords), model.best(cords) % 1000);
    }

    private void crossed() {
        int[] twos = new int[2 + 2 * random.nextInt(3)];
        for (int i = 0; i < twos.length; i += 2) {
            twos[i] = random.nextInt(model.lines);
            twos[i + 1] = (twos[i] + 1 + random.nextInt(model.lines - 1)) % model.lines;
        }
        Check.tray(x, 0, Arrays.stream(twos).asLongStream().toArray());
        calls += 1 + twos.length;
        List<int[]> ways = model.crossings(twos);
        due("crossings of " + Arrays.toString(twos), x.crossings(0), ways.size());
        for (int i = 0; i < twos.length / 2; i++) {
            due("crossed of " + Arrays.toString(twos) + " " + i, x.crossed(0, i), ways.isEmpty() ? -1 : ways.get(0)[i]);
        }
    }

    private void rules() {
        long[] threes = new long[3 + 3 * random.nextInt(3)];
        int u = random.nextInt(model.lines);
        int v = random.nextInt(model.lines);
        for (int i = 0; i < threes.length; i += 3) {
            threes[i] = random.nextInt(model.lines);
            threes[i + 1] = random.nextInt(model.lines);
            boolean isOdd = random.nextInt(9) == 0;
            threes[i + 2] = isOdd ? random.nextInt(model.lines) : (u * threes[i] + threes[i + 1] + v) % model.lines;
        }
        Check.tray(x, 1, threes);
        calls += 1 + threes.length;
        List<Integer> rules = model.rules(threes);
        String told = " of " + Arrays.toString(threes);
        due("rules" + told, x.rules(1), rules.size());
        int k = random.nextInt(rules.size() + 2);
        due("rule " + k + told, x.rule(1, k), k < rules.size() ? rules.get(k) : -1);
        due("ask" + told, x.ask(1), model.ask(rules));
    }

    private void pairs() {
        for (int l = 0; l < model.lines; l++) {
            for (int m = 0; m < model.lines; m++) {
                due("likes(" + l + ", " + m + ")", x.likes(l, m), model.liking(l, m));
            }
        }
        int stable = 0;
        int[] first = null;
        int[] happy = null;
        int most = 0;
        for (int[] with : model.pairings()) {
            if (model.leaves(with) < 0) {
                stable++;
                first = first == null ? with : first;
            }
            int sum = 0;
            for (int l = 0; l < model.lines; l++) {
                sum += with[l] < 0 ? 0 : model.liking(l, with[l]);
            }
            if (happy == null || sum > most) {
                happy = with;
                most = sum;
            }
        }
        due("stable()", x.stable(), stable);
        due("happiest(0)", x.happiest(0), most);
        for (int l = 0; l < model.lines; l++) {
            due("partner(" + l + ")", x.partner(l), first == null ? -1 : first[l]);
            due("happiest(1" + l + ")", x.happiest(10 + l), happy == null ? -1 : happy[l]);
        }
    }
}
