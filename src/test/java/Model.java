import java.util.ArrayList;
import java.util.Arrays;
import java.util.List;

/**
 * The document once more, told as plainly as can be and without a thought of speed: minutes go by one at a time,
 * laws are read anew whenever they are asked, and what is best is found by trying everything.
 */
final class Model {
    int lines = 2;
    int minute = 0;
    final List<Integer> reach = new ArrayList<>();
    /** Each call: from, to, its minute, how long it lasts, state, came to, cord. */
    final List<int[]> calls = new ArrayList<>();
    final boolean[] shut = new boolean[8];
    final int[] spouse = {-1, -1, -1, -1, -1, -1, -1, -1};
    String slips = null;
    String likes = null;
    String marries = null;

    private String[] tokens;
    private int next;
    private int[] values;

    Model() {
    }

    Model(Model other) {
        lines = other.lines;
        minute = other.minute;
        reach.addAll(other.reach);
        for (int[] call : other.calls) {
            calls.add(call.clone());
        }
        System.arraycopy(other.shut, 0, shut, 0, 8);
        System.arraycopy(other.spouse, 0, spouse, 0, 8);
        slips = other.slips;
        likes = other.likes;
        marries = other.marries;
    }

    /** Of a text without faults. */
    Model(String text) {
        for (String told : text.split(";")) {
            String[] words = told.trim().split("[ :]+");
            String law = told.substring(told.indexOf(':') + 1);
            switch (words[0]) {
                case "lines" -> lines = Integer.parseInt(words[1]);
                case "minute" -> minute = Integer.parseInt(words[1]);
                case "slips" -> slips = law;
                case "likes" -> likes = law;
                case "marries" -> marries = law;
                case "cord" -> reach.add(reached(words));
                case "call" -> calls.add(new int[] {Integer.parseInt(words[1]), Integer.parseInt(words[3]),
                    Integer.parseInt(words[5]), Integer.parseInt(words[7]), 0, -1, -1});
                default -> {
                }
            }
        }
        for (int[] call : calls) {
            call[4] = call[2] < minute ? 3 : 0;
        }
    }

    private int reached(String[] words) {
        int bits = 0;
        for (int i = 1; i < words.length; i++) {
            bits |= 1 << Integer.parseInt(words[i]);
        }
        return bits == 0 ? (1 << lines) - 1 : bits;
    }

    // ---- laws: the variables are from, to, minute, call, likes, liked, or who and whom

    private int sumOf(String law, int... variables) {
        begin(law, variables);
        return sum();
    }

    private void begin(String law, int... variables) {
        tokens = law.replaceAll("([-+*()=<>\\[\\]])", " $1 ").trim().split("\\s+");
        next = 0;
        values = variables;
    }

    private boolean at(String token) {
        boolean is = next < tokens.length && tokens[next].equals(token);
        if (is) {
            next++;
        }
        return is;
    }

    private static int kept(long v) {
        return (int) Math.min(1000000, Math.max(-1000000, v));
    }

    private int sum() {
        int v = term();
        while (true) {
            if (at("+")) {
                v = kept((long) v + term());
            } else if (at("-")) {
                v = kept((long) v - term());
            } else {
                return v;
            }
        }
    }

    private int term() {
        int v = atom();
        while (at("*")) {
            v = kept((long) v * atom());
        }
        return v;
    }

    private int atom() {
        if (at("(")) {
            int v = sum();
            at(")");
            return v;
        }
        String token = tokens[next++];
        int variable = values.length == 2 ? List.of("who", "whom").indexOf(token)
                : List.of("from", "to", "minute", "call", "likes", "liked").indexOf(token);
        return variable >= 0 ? values[variable] : Integer.parseInt(token);
    }

    private boolean truth() {
        boolean v = both();
        while (at("or")) {
            v |= both();
        }
        return v;
    }

    private boolean both() {
        boolean v = unit();
        while (at("and")) {
            v &= unit();
        }
        return v;
    }

    private boolean unit() {
        if (at("not")) {
            return !unit();
        }
        if (at("[")) {
            boolean v = truth();
            at("]");
            return v;
        }
        int left = sum();
        String sign = tokens[next++];
        int right = sum();
        return sign.equals("=") ? left == right : sign.equals("<") ? left < right : left > right;
    }

    int liking(int who, int whom) {
        return likes == null ? 0 : sumOf(likes, who, whom);
    }

    int whereTo(int c, int when) {
        int[] call = calls.get(c);
        int slip = slips == null ? 0 : sumOf(slips, call[0], call[1], when % 60, c, 0, 0);
        return Math.floorMod(call[1] + slip, lines);
    }

    // ---- minutes

    boolean busy(int l) {
        return speaksWith(l) >= 0;
    }

    int speaksWith(int l) {
        for (int[] call : calls) {
            if (call[4] == 1 && (call[0] == l || call[5] == l)) {
                return call[0] == l ? call[5] : call[0];
            }
        }
        return -1;
    }

    int callOn(int cord) {
        for (int c = 0; c < calls.size(); c++) {
            if (calls.get(c)[4] == 1 && calls.get(c)[6] == cord) {
                return c;
            }
        }
        return -1;
    }

    /** One minute; led tells for some calls where they come to in place of the law (NONE: by the law). */
    int step(int[] led) {
        int lost = 0;
        for (int[] call : calls) {
            if (call[4] == 1 && minute - call[2] >= call[3]) {
                call[4] = 2;
            }
        }
        for (int c = 0; c < calls.size(); c++) {
            int[] call = calls.get(c);
            if (call[4] == 0 && call[2] == minute) {
                int came = led == null || led[c] < 0 ? whereTo(c, minute) : led[c];
                int cord = -1;
                for (int k = reach.size() - 1; k >= 0; k--) {
                    int bits = reach.get(k);
                    if (callOn(k) < 0 && (bits >> call[0] & 1) == 1 && (bits >> came & 1) == 1) {
                        cord = k;
                    }
                }
                if (came == call[0] || shut[came] || shut[call[0]] || busy(came) || busy(call[0]) || cord < 0) {
                    call[4] = 3;
                    lost++;
                    continue;
                }
                call[4] = 1;
                call[5] = came;
                call[6] = cord;
                wed(c, came);
            }
        }
        minute++;
        return lost;
    }

    private void wed(int c, int came) {
        int[] call = calls.get(c);
        if (came == call[1] || spouse[came] >= 0 || spouse[call[0]] >= 0 || marries == null) {
            return;
        }
        int likes = liking(call[0], came);
        int liked = liking(came, call[0]);
        begin(marries, call[0], came, minute % 60, c, likes, liked);
        if (truth()) {
            spouse[came] = call[0];
            spouse[call[0]] = came;
        }
    }

    int steps(int n) {
        int lost = 0;
        for (int i = 0; i < n; i++) {
            lost += step(null);
        }
        return lost;
    }

    int tally(int state) {
        return (int) calls.stream().filter(call -> call[4] == state).count();
    }

    int twos() {
        return (int) Arrays.stream(spouse).filter(m -> m >= 0).count() / 2;
    }

    // ---- to come

    int firstLost() {
        Model m = new Model(this);
        for (int i = 0; i < 1200; i++) {
            Model before = new Model(m);
            if (m.step(null) > 0) {
                for (int c = 0; c < calls.size(); c++) {
                    if (m.calls.get(c)[4] == 3 && before.calls.get(c)[4] == 0) {
                        return c;
                    }
                }
            }
        }
        return -1;
    }

    int together(int l, int other) {
        if (speaksWith(l) == other) {
            return 0;
        }
        Model m = new Model(this);
        for (int i = 0; i < 1200; i++) {
            m.step(null);
            if (m.speaksWith(l) == other) {
                return i;
            }
        }
        return -1;
    }

    int busiest(int n) {
        Model m = new Model(this);
        int most = -1;
        int first = -1;
        for (int i = 0; i < n; i++) {
            m.step(null);
            if (m.tally(1) > most) {
                most = m.tally(1);
                first = i;
            }
        }
        return first;
    }

    int hog(int n) {
        int first = -1;
        int fewest = 99;
        for (int c = 0; c < calls.size(); c++) {
            if (calls.get(c)[4] == 0) {
                Model with = new Model(this);
                int lost = with.steps(n) - (with.calls.get(c)[4] == 3 ? 1 : 0);
                Model without = new Model(this);
                without.calls.get(c)[2] = -1;
                int others = without.steps(n);
                if (others < lost && others < fewest) {
                    first = c;
                    fewest = others;
                }
            }
        }
        return first;
    }

    /** How many cords are in use at the ends of this minute and of the next ones. */
    long[] uses(int minutes) {
        long[] uses = new long[minutes];
        Model m = new Model(this);
        for (int i = 0; i < minutes; i++) {
            m.step(null);
            for (int k = 0; k < reach.size(); k++) {
                uses[i] += m.callOn(k) >= 0 ? 1 : 0;
            }
        }
        return uses;
    }

    // ---- told deeds

    /** Why a told deed can't be; 0 if it can. */
    int whyNot(long told) {
        if (told == -1) {
            return 0;
        }
        if (0 <= told && told <= 99) {
            long l = told / 10;
            long m = told % 10;
            return l >= lines || m >= lines || l == m ? 1 : calls.size() == 10 ? 2 : 0;
        }
        if (100 <= told && told < 100 + lines) {
            return 0;
        }
        if (200 <= told && told < 200 + calls.size()) {
            return calls.get((int) told - 200)[4] == 1 ? 0 : 2;
        }
        return 1;
    }

    void told(long told) {
        int v = (int) told;
        if (v == -1) {
            step(null);
        } else if (v < 100) {
            calls.add(new int[] {v / 10, v % 10, minute, 5, 0, -1, -1});
        } else if (v < 200) {
            shut[v - 100] = !shut[v - 100];
        } else {
            calls.get(v - 200)[4] = 2;
        }
    }

    /** What judge() answers for 0 to 3. */
    int[] judged(long[] row) {
        Model m = new Model(this);
        for (int i = 0; i < row.length; i++) {
            int why = m.whyNot(row[i]);
            if (why != 0) {
                return new int[] {i, why, m.tally(3), m.twos()};
            }
            m.told(row[i]);
        }
        return new int[] {-1, 0, m.tally(3), m.twos()};
    }

    // ---- cords

    private boolean joins(int k, int l, int m) {
        return (reach.get(k) >> l & 1) == 1 && (reach.get(k) >> m & 1) == 1;
    }

    int enough() {
        for (int many = 0; many <= reach.size(); many++) {
            for (int set = 0; set < 1 << reach.size(); set++) {
                if (Integer.bitCount(set) == many && joinsAll(set)) {
                    return many;
                }
            }
        }
        return -1;
    }

    private boolean joinsAll(int set) {
        int joined = 0;
        for (int l = 0; l < lines; l++) {
            for (int m = 0; m < l; m++) {
                for (int k = 0; k < reach.size(); k++) {
                    if ((set >> k & 1) == 1 && joins(k, l, m)) {
                        joined++;
                        break;
                    }
                }
            }
        }
        return joined == lines * (lines - 1) / 2;
    }

    /** Tries each cord for each two. */
    boolean atOnce(int[] twos) {
        int many = twos.length / 2;
        for (int number = 0; number < 27; number++) {
            int[] by = {number % 3, number / 3 % 3, number / 9};
            boolean can = true;
            for (int i = 0; i < many; i++) {
                can &= by[i] < reach.size() && joins(by[i], twos[2 * i], twos[2 * i + 1]);
                for (int j = 0; j < i; j++) {
                    can &= by[i] != by[j];
                }
            }
            if (can) {
                return true;
            }
        }
        return false;
    }

    int darlings() {
        int first = -1;
        for (int two = 1; two < 10 * lines; two++) {
            int l = two / 10;
            int m = two % 10;
            if (l < m && m < lines && (first < 0 || liking(l, m) + liking(m, l)
                    > liking(first / 10, first % 10) + liking(first % 10, first / 10))) {
                first = two;
            }
        }
        return first;
    }

    /** The greatest and of these the least set: 1000 times its bits, and how many. */
    int best(int freeCords) {
        int most = 0;
        int bits = 0;
        for (int set = 0; set < 1 << calls.size(); set++) {
            if (Integer.bitCount(set) > most && canAll(set, freeCords)) {
                most = Integer.bitCount(set);
                bits = set;
            }
        }
        return 1000 * bits + most;
    }

    private boolean canAll(int set, int freeCords) {
        for (int c = 0; c < calls.size(); c++) {
            if ((set >> c & 1) == 1 && calls.get(c)[4] != 0) {
                return false;
            }
        }
        Model m = new Model(this);
        return m.canFrom(set, freeCords, minute, 0);
    }

    /** Goes through minutes and numbers, trying each cord for each call of the set. */
    private boolean canFrom(int set, int freeCords, int when, int c) {
        if (c == calls.size()) {
            int soonest = Integer.MAX_VALUE;
            for (int d = 0; d < calls.size(); d++) {
                if ((set >> d & 1) == 1 && calls.get(d)[2] > when) {
                    soonest = Math.min(soonest, calls.get(d)[2]);
                }
            }
            return soonest == Integer.MAX_VALUE || canFrom(set, freeCords, soonest, 0);
        }
        int[] call = calls.get(c);
        if ((set >> c & 1) == 0 || call[2] != when) {
            return canFrom(set, freeCords, when, c + 1);
        }
        if (shut[call[0]] || shut[call[1]] || holds(call[0], when) || holds(call[1], when)) {
            return false;
        }
        int cords = freeCords < 0 ? reach.size() : freeCords;
        for (int k = 0; k < cords; k++) {
            int bits = freeCords < 0 ? reach.get(k) : 255;
            if ((bits >> call[0] & 1) == 1 && (bits >> call[1] & 1) == 1 && !cordHeld(k, when, freeCords >= 0, set)) {
                int[] before = call.clone();
                call[4] = 1;
                call[5] = call[1];
                call[6] = k;
                boolean can = canFrom(set, freeCords, when, c + 1);
                System.arraycopy(before, 0, call, 0, 7);
                if (can) {
                    return true;
                }
            }
        }
        return false;
    }

    private boolean holds(int l, int when) {
        return calls.stream().anyMatch(call -> call[4] == 1 && (call[0] == l || call[5] == l) && call[2] + call[3] > when);
    }

    private boolean cordHeld(int k, int when, boolean onlyNew, int set) {
        for (int c = 0; c < calls.size(); c++) {
            int[] call = calls.get(c);
            if (call[4] == 1 && call[6] == k && call[2] + call[3] > when && (!onlyNew || (set >> c & 1) == 1)) {
                return true;
            }
        }
        return false;
    }

    /** All ways to be crossed, the first of them first. */
    List<int[]> crossings(int[] twos) {
        List<int[]> ways = new ArrayList<>();
        pick(twos, new int[twos.length / 2], 0, ways);
        return ways;
    }

    private void pick(int[] twos, int[] picks, int i, List<int[]> ways) {
        if (i == picks.length) {
            int[] led = new int[10];
            Arrays.fill(led, -1);
            for (int j = 0; j < i; j++) {
                led[picks[j]] = twos[2 * j] + twos[2 * j + 1] - calls.get(picks[j])[0];
            }
            Model m = new Model(this);
            for (int n = 0; n < 1200 && m.tally(0) > 0; n++) {
                m.step(led);
            }
            if (Arrays.stream(picks).allMatch(c -> m.calls.get(c)[5] >= 0)) {
                ways.add(picks.clone());
            }
            return;
        }
        for (int c = 0; c < calls.size(); c++) {
            int from = calls.get(c)[0];
            int d = c;
            boolean taken = Arrays.stream(picks, 0, i).anyMatch(p -> p == d);
            if (calls.get(c)[4] == 0 && !taken && (from == twos[2 * i] || from == twos[2 * i + 1])) {
                picks[i] = c;
                pick(twos, picks, i + 1, ways);
            }
        }
    }

    // ---- pairs

    /** All ways to be paired, found among all rows of partners, sorted with left over behind all. */
    List<int[]> pairings() {
        List<int[]> all = new ArrayList<>();
        rows(new int[lines], 0, all);
        return all;
    }

    private void rows(int[] with, int l, List<int[]> all) {
        if (l == lines) {
            int alone = 0;
            for (int k = 0; k < lines; k++) {
                alone += with[k] == lines ? 1 : 0;
                if (with[k] == k || with[k] < lines && with[with[k]] != k) {
                    return;
                }
            }
            if (alone == lines % 2) {
                all.add(Arrays.stream(with).map(m -> m == lines ? -1 : m).toArray());
            }
            return;
        }
        for (int m = 0; m <= lines; m++) {
            // A row that its earlier places rule out already is left.
            if (m == l || m < l && with[m] != l) {
                continue;
            }
            boolean told = false;
            for (int k = 0; k < l; k++) {
                told |= with[k] == l && m != k;
            }
            if (!told) {
                with[l] = m;
                rows(with, l + 1, all);
            }
        }
    }

    int leaves(int[] with) {
        for (int l = 0; l < lines; l++) {
            for (int m = l + 1; m < lines; m++) {
                boolean lWould = liking(l, m) > (with[l] < 0 ? 0 : liking(l, with[l]));
                boolean mWould = liking(m, l) > (with[m] < 0 ? 0 : liking(m, with[m]));
                if (with[l] != m && lWould && mWould) {
                    return 10 * l + m;
                }
            }
        }
        return -1;
    }

    // ---- rules

    List<Integer> rules(long[] threes) {
        List<Integer> rules = new ArrayList<>();
        for (int rule = 0; rule < 80; rule++) {
            boolean holds = rule / 10 < lines && rule % 10 < lines;
            for (int i = 0; i < threes.length; i += 3) {
                holds &= byRule(rule, (int) threes[i], (int) threes[i + 1]) == threes[i + 2];
            }
            if (holds) {
                rules.add(rule);
            }
        }
        return rules;
    }

    private int byRule(int rule, int from, int to) {
        return (rule / 10 * from + to + rule % 10) % lines;
    }

    int ask(List<Integer> rules) {
        int first = -1;
        long least = Long.MAX_VALUE;
        for (int c = 0; c < calls.size() && !rules.isEmpty(); c++) {
            long most = 0;
            for (int l = 0; l < lines; l++) {
                int line = l;
                int[] call = calls.get(c);
                most = Math.max(most, rules.stream().filter(rule -> byRule(rule, call[0], call[1]) == line).count());
            }
            if (most < least) {
                first = c;
                least = most;
            }
        }
        return first;
    }
}
