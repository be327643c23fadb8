import java.util.Arrays;
import java.util.NoSuchElementException;

/** Married by crossed lines: a telephone exchange told as a text, and what comes of its calls. */
public final class CrossedLines {
    public static final int NONE = -1;

    private static final int MOST_BYTES = 900;
    private static final int MOST_LINES = 8;
    private static final int MOST_CORDS = 3;
    private static final int MOST_CALLS = 10;
    private static final int MOST_DEEDS = 10;
    private static final int MOST_NESTED = 6;
    private static final int MOST_PLACES = 30;
    private static final int MOST_TWOS = 3;
    private static final int MOST_THREES = 5;
    private static final int MOST_LOSS_CORDS = 8;
    private static final int RULES_END = 10 * MOST_LINES;
    private static final int TRAYS = 4;
    private static final int IMAGES = 3;
    private static final int FAR = 1200;
    private static final int MOST_DIVISIONS = 200;

    private final byte[] tape = new byte[MOST_BYTES];
    private int bytes = 0;
    private final Parser parser;
    private int faultKind = 0;
    private int faultPlace = NONE;

    private final Board board;
    private final Deeds deeds = new Deeds();
    private final Board trial;
    private final Board[] boardImages = new Board[IMAGES];
    private final Deeds[] deedsImages = new Deeds[IMAGES];
    private final Tray[] trays = new Tray[TRAYS];

    private final Fitting fitting = new Fitting();
    private final Crossing crossing = new Crossing();
    private final Pairs pairs = new Pairs();
    private final int[] spouses = new int[MOST_LINES];
    private final int[] comers = new int[MOST_LINES];

    public CrossedLines() {
        parser = new Parser(new Tokens(tape));
        board = new Board(new Plan(parser));
        trial = new Board(board.plan);
        for (int i = 0; i < TRAYS; i++) {
            trays[i] = new Tray();
        }
    }

    // ---- the exchange

    public int feed(int a, int b, int c, int d, int e) {
        if (bytes + 20 > MOST_BYTES) {
            return NONE;
        }
        putOnTape(a);
        putOnTape(b);
        putOnTape(c);
        putOnTape(d);
        putOnTape(e);
        return bytes;
    }

    private void putOnTape(int four) {
        for (int shift = 24; shift >= 0; shift -= 8) {
            if (bytes >= 0 && bytes < MOST_BYTES) {
                tape[bytes] = (byte) (four >> shift);
                bytes++;
            }
        }
    }

    public int exchange(int n) throws IllegalArgumentException {
        needWithin(n, 0, bytes);
        bytes = 0;
        parser.read(n);
        faultKind = parser.flaw();
        faultPlace = parser.flawPlace();
        if (faultKind != 0) {
            return -10 - faultKind;
        }
        board.setUp(new Plan(parser), parser);
        deeds.forget();
        return board.plan.textLines;
    }

    public int fault(int what) {
        if (what == 0) {
            return faultKind;
        }
        return what == 1 ? faultPlace : NONE;
    }

    public int line(int l, int what) throws NoSuchElementException, IllegalArgumentException {
        needLine(l);
        needWithin(what, 0, 2);
        if (what == 0) {
            return board.speaksWith(l);
        }
        if (what == 1) {
            return board.spouse(l);
        }
        return board.isShut(l) ? 1 : 0;
    }

    public int cord(int k, int what) throws NoSuchElementException, IllegalArgumentException {
        if (k < 0 || k >= board.plan.cords) {
            throw new NoSuchElementException("no such cord");
        }
        needWithin(what, 0, 1);
        return what == 0 ? board.plan.reachOf(k) : board.callOn(k);
    }

    public int call(int c, int what) throws NoSuchElementException, IllegalArgumentException {
        needCall(c);
        needWithin(what, 0, Board.FACTS - 1);
        return board.fact(c, what);
    }

    public int likes(int l, int m) throws NoSuchElementException {
        needLine(l);
        needLine(m);
        return board.plan.liking(l, m);
    }

    public int comesTo(int c, int n) throws NoSuchElementException, IllegalArgumentException {
        needCall(c);
        needWithin(n, 0, 999);
        return board.whereTo(c, board.minute() + n);
    }

    // ---- deeds

    public int dial(int l, int m, int lasts) {
        int why = board.whyNotRing(l, m, lasts);
        if (why != 0) {
            return -why;
        }
        deeds.keep(board);
        return board.ring(l, m, lasts);
    }

    public int pull(int c) {
        int why = board.whyNotUnplug(c);
        if (why != 0) {
            return -10 - why;
        }
        deeds.keep(board);
        return board.unplug(c);
    }

    public int door(int l) throws NoSuchElementException {
        needLine(l);
        deeds.keep(board);
        board.turnDoor(l);
        return board.isShut(l) ? 1 : 0;
    }

    public int minutes(int n) throws IllegalArgumentException {
        needWithin(n, 1, 99);
        deeds.keep(board);
        return board.pass(n);
    }

    public int undo(int n) throws IllegalArgumentException {
        needWithin(n, 1, deeds.many());
        deeds.takeBack(board, n);
        return deeds.many();
    }

    public int judge(int tray, int what)
            throws NoSuchElementException, IllegalStateException, IllegalArgumentException {
        Tray told = toldTray(tray);
        needWithin(what, 0, 3);
        trial.become(board);
        int why = 0;
        int place = NONE;
        for (int i = 0; i < told.many() && why == 0; i++) {
            why = trial.whyNotTold(told.at(i));
            if (why == 0) {
                trial.doTold(told.at(i));
            } else {
                place = i;
            }
        }
        if (what == 0) {
            return place;
        }
        if (what == 1) {
            return why;
        }
        return what == 2 ? trial.tally(Board.LOST) : trial.twosMarried();
    }

    public int perform(int tray) throws NoSuchElementException, IllegalStateException {
        Tray told = toldTray(tray);
        for (int i = 0; i < told.many(); i++) {
            if (!tryTold(told.at(i))) {
                return i;
            }
        }
        return told.many();
    }

    public int spring(int seed, int times) throws IllegalArgumentException {
        needWithin(times, 1, 30);
        int lines = board.plan.lines;
        int x = seed;
        int done = 0;
        for (int i = 0; i < times; i++) {
            x = drawn(x);
            int sort = (x >>> 16) % 5;
            int told = NONE;
            if (sort == 2) {
                x = drawn(x);
                told = 10 * among(x, lines);
                x = drawn(x);
                told += among(x, lines);
            } else if (sort == 3) {
                x = drawn(x);
                told = Board.TOLD_DOOR + among(x, lines);
            } else if (sort == 4) {
                x = drawn(x);
                told = Board.TOLD_PULL + among(x, MOST_CALLS);
            }
            if (tryTold(told)) {
                done++;
            }
        }
        return done;
    }

    private static int drawn(int x) {
        return 1103515245 * x + 12345;
    }

    private static int among(int x, int many) {
        return many > 0 ? (x >>> 16) % many : 0;
    }

    private boolean tryTold(long told) {
        if (board.whyNotTold(told) != 0) {
            return false;
        }
        deeds.keep(board);
        board.doTold(told);
        return true;
    }

    // ---- to come

    public int lost(int n) throws IllegalArgumentException {
        needMinutes(n);
        return foresee(n);
    }

    public int firstLost() {
        foresee(FAR);
        int first = NONE;
        for (int c = 0; c < board.calls(); c++) {
            boolean isLost = board.isToCome(c) && trial.fact(c, Board.STATE) == Board.LOST;
            if (isLost && (first == NONE || board.fact(c, Board.AT) < board.fact(first, Board.AT))) {
                first = c;
            }
        }
        return first;
    }

    public int together(int l, int m) throws NoSuchElementException, IllegalArgumentException {
        needLine(l);
        needLine(m);
        if (l == m) {
            throw new IllegalArgumentException("both are one line");
        }
        if (board.speaksWith(l) == m) {
            return 0;
        }
        foresee(FAR);
        int first = NONE;
        for (int c = 0; c < board.calls(); c++) {
            if (board.isToCome(c) && trial.joined(c, l, m)) {
                int wait = board.fact(c, Board.AT) - board.minute();
                first = first == NONE ? wait : Math.min(first, wait);
            }
        }
        return first;
    }

    public int weddings(int n) throws IllegalArgumentException {
        needMinutes(n);
        foresee(n);
        return trial.twosMarried();
    }

    public int busiest(int n) throws IllegalArgumentException {
        needMinutes(n);
        foresee(n);
        // Use only grows where a call begins, so no other minute behind this one can be the first.
        int now = board.minute();
        int most = cordsInUse(now);
        int first = 0;
        for (int c = 0; c < board.calls(); c++) {
            if (board.isToCome(c) && trial.wasOn(c)) {
                int wait = board.fact(c, Board.AT) - now;
                int use = cordsInUse(now + wait);
                if (use > most || use == most && wait < first) {
                    most = use;
                    first = wait;
                }
            }
        }
        return first;
    }

    public int hog(int n) throws IllegalArgumentException {
        needMinutes(n);
        int lostWithAll = foresee(n);
        int lostBits = trial.bitsOf(Board.LOST);
        int first = NONE;
        int fewest = 0;
        for (int c = 0; c < board.calls(); c++) {
            if (board.isToCome(c)) {
                int with = lostWithAll - (lostBits >> c & 1);
                trial.become(board);
                trial.neverBegin(c);
                int without = trial.pass(n);
                if (without < with && (first == NONE || without < fewest)) {
                    first = c;
                    fewest = without;
                }
            }
        }
        return first;
    }

    /** Lets the trial board see the next minutes: how many calls are lost in them. */
    private int foresee(int n) {
        trial.become(board);
        return trial.pass(n);
    }

    /** At the end of a minute that the trial board has seen. */
    private int cordsInUse(int minute) {
        int use = 0;
        for (int c = 0; c < board.calls(); c++) {
            boolean goes = board.isToCome(c) || board.isOn(c);
            int begin = board.fact(c, Board.AT);
            int end = board.endOf(c);
            if (goes && trial.wasOn(c) && begin <= minute && minute < end) {
                use++;
            }
        }
        return use;
    }

    // ---- cords

    public int best(int what) throws IllegalArgumentException {
        needWithin(what, 0, 1);
        fitting.seekByBoard(board);
        return what == 0 ? fitting.most() : fitting.mostBits();
    }

    public int bestBy(int cords) throws IllegalArgumentException {
        needWithin(cords, 0, MOST_CORDS);
        fitting.seekByCords(board, cords);
        return fitting.most();
    }

    public int enough() {
        int cords = board.plan.cords;
        int fewest = NONE;
        for (int set = 1; set < 1 << cords; set++) {
            int many = Integer.bitCount(set);
            if ((fewest == NONE || many < fewest) && joinAnyTwo(set)) {
                fewest = many;
            }
        }
        return fewest;
    }

    private boolean joinAnyTwo(int cordBits) {
        Plan plan = board.plan;
        for (int l = 0; l < plan.lines; l++) {
            for (int m = l + 1; m < plan.lines; m++) {
                boolean joined = false;
                for (int k = 0; k < plan.cords; k++) {
                    joined |= (cordBits >> k & 1) == 1 && plan.reaches(k, l, m);
                }
                if (!joined) {
                    return false;
                }
            }
        }
        return true;
    }

    public boolean atOnce(int tray)
            throws NoSuchElementException, IllegalStateException, IllegalArgumentException {
        Tray twos = toldTray(tray);
        needTwos(twos);
        int seen = 0;
        for (int i = 0; i < twos.many(); i++) {
            int bit = 1 << (int) twos.at(i);
            if ((seen & bit) != 0) {
                throw new IllegalArgumentException("a line is told twice");
            }
            seen |= bit;
        }
        return joinTwos(twos, 0, 0);
    }

    /** Whether the twos from the i-th on can be joined without the cords of usedBits; i stays below three. */
    private boolean joinTwos(Tray twos, int i, int usedBits) {
        if (i >= MOST_TWOS || 2 * i + 1 >= twos.many()) {
            return true;
        }
        int l = (int) twos.at(2 * i);
        int m = (int) twos.at(2 * i + 1);
        for (int k = 0; k < board.plan.cords; k++) {
            if ((usedBits >> k & 1) == 0 && board.plan.reaches(k, l, m)
                    && joinTwos(twos, i + 1, usedBits | 1 << k)) {
                return true;
            }
        }
        return false;
    }

    // ---- slips

    public int crossed(int tray, int i)
            throws NoSuchElementException, IllegalStateException, IllegalArgumentException {
        Tray twos = toldTray(tray);
        needTwos(twos);
        needWithin(i, 0, twos.many() / 2 - 1);
        crossing.seek(board, twos);
        return crossing.firstOf(i);
    }

    public int crossings(int tray)
            throws NoSuchElementException, IllegalStateException, IllegalArgumentException {
        Tray twos = toldTray(tray);
        needTwos(twos);
        crossing.seek(board, twos);
        return crossing.ways();
    }

    // ---- pairs

    public int stable() {
        pairs.survey(board.plan);
        return pairs.steadyWays();
    }

    public int partner(int l) throws NoSuchElementException {
        needLine(l);
        pairs.survey(board.plan);
        return pairs.steadyPartner(l);
    }

    public int leave() {
        for (int l = 0; l < MOST_LINES; l++) {
            spouses[l] = board.spouse(l);
        }
        return Pairs.firstToPart(board.plan, spouses);
    }

    public int darlings() {
        Plan plan = board.plan;
        int first = NONE;
        int most = 0;
        for (int l = 0; l < plan.lines; l++) {
            for (int m = l + 1; m < plan.lines; m++) {
                int sum = plan.liking(l, m) + plan.liking(m, l);
                if (first == NONE || sum > most) {
                    first = 10 * l + m;
                    most = sum;
                }
            }
        }
        return first;
    }

    public int happiest(int what) throws IllegalArgumentException {
        if (what != 0) {
            needWithin(what, 10, 17);
        }
        pairs.survey(board.plan);
        return what == 0 ? pairs.happySum() : pairs.happyPartner(what - 10);
    }

    // ---- losses

    public long loss(int c, int p, int q, int what) throws IllegalArgumentException {
        needWithin(c, 0, MOST_LOSS_CORDS);
        needWithin(p, 1, 20);
        needWithin(q, 1, 20);
        needWithin(what, 0, 1);
        return lossPart(c, p, q, what == 0);
    }

    public int fewest(int p, int q, int m) throws IllegalArgumentException {
        needWithin(p, 1, 20);
        needWithin(q, 1, 20);
        needWithin(m, 1, 999);
        for (int c = 0; c <= MOST_LOSS_CORDS; c++) {
            if (lossPart(c, p, q, true) * m <= lossPart(c, p, q, false)) {
                return c;
            }
        }
        return NONE;
    }

    /** The number above or below in lowest terms; by 8 cords and 20 by 20 it is some 3 * 10^15 at most. */
    private static long lossPart(int c, int p, int q, boolean isAbove) {
        long above = 1;
        long below = 1;
        for (int k = 1; k <= c; k++) {
            long lost = p * above;
            long all = (long) q * k * below + lost;
            long common = commonDivisor(all, lost);
            if (common > 0) {
                above = lost / common;
                below = all / common;
            }
        }
        return isAbove ? above : below;
    }

    private static long commonDivisor(long a, long b) {
        long x = a;
        long y = b;
        for (int i = 0; i < MOST_DIVISIONS && y != 0; i++) {
            long rest = x % y;
            x = y;
            y = rest;
        }
        return x;
    }

    // ---- rules

    public int rules(int tray)
            throws NoSuchElementException, IllegalStateException, IllegalArgumentException {
        Tray seen = toldTray(tray);
        needThrees(seen);
        int many = 0;
        for (int rule = 0; rule < RULES_END; rule++) {
            if (explains(rule, seen)) {
                many++;
            }
        }
        return many;
    }

    public int rule(int tray, int k)
            throws NoSuchElementException, IllegalStateException, IllegalArgumentException {
        Tray seen = toldTray(tray);
        needThrees(seen);
        if (k < 0) {
            throw new IllegalArgumentException("below 0");
        }
        int many = 0;
        for (int rule = 0; rule < RULES_END; rule++) {
            if (explains(rule, seen)) {
                if (many == k) {
                    return rule;
                }
                many++;
            }
        }
        return NONE;
    }

    public int ask(int tray)
            throws NoSuchElementException, IllegalStateException, IllegalArgumentException {
        Tray seen = toldTray(tray);
        needThrees(seen);
        int first = NONE;
        int least = 0;
        for (int c = 0; c < board.calls(); c++) {
            int most = mostToOneLine(seen, c);
            if (most > 0 && (first == NONE || most < least)) {
                first = c;
                least = most;
            }
        }
        return first;
    }

    /** The greatest number of rules by which a call comes to one line; 0 without rules. */
    private int mostToOneLine(Tray seen, int c) {
        Arrays.fill(comers, 0);
        int most = 0;
        for (int rule = 0; rule < RULES_END; rule++) {
            if (explains(rule, seen)) {
                int came = byRule(rule, board.fact(c, Board.FROM), board.fact(c, Board.TO));
                if (came >= 0 && came < MOST_LINES) {
                    comers[came]++;
                    most = Math.max(most, comers[came]);
                }
            }
        }
        return most;
    }

    /** Whether 10 times u and v is a rule, and one by which all that was seen were so. */
    private boolean explains(int rule, Tray seen) {
        int lines = board.plan.lines;
        if (rule / 10 >= lines || rule % 10 >= lines) {
            return false;
        }
        for (int i = 0; i + 2 < seen.many(); i += 3) {
            if (byRule(rule, (int) seen.at(i), (int) seen.at(i + 1)) != seen.at(i + 2)) {
                return false;
            }
        }
        return true;
    }

    private int byRule(int rule, int from, int to) {
        int lines = board.plan.lines;
        return lines > 0 ? (rule / 10 * from + to + rule % 10) % lines : NONE;
    }

    // ---- trays, images

    public void tray(int tray, int sort, int many) throws NoSuchElementException, IllegalArgumentException {
        Tray row = anyTray(tray);
        needWithin(sort, 0, 3);
        needWithin(many, 0, MOST_PLACES);
        row.makeOf(sort, many);
    }

    public long write(int tray, int place, long v)
            throws NoSuchElementException, IllegalStateException, IndexOutOfBoundsException {
        Tray row = toldTray(tray);
        if (place < 0 || place >= row.many()) {
            throw new IndexOutOfBoundsException("no such place");
        }
        row.put(place, v);
        return row.at(place);
    }

    public int copy(int tray) throws NoSuchElementException, IllegalStateException {
        Tray row = toldTray(tray);
        foresee(MOST_PLACES);
        for (int i = 0; i < row.many(); i++) {
            row.put(i, cordsInUse(board.minute() + i));
        }
        return row.many();
    }

    public void image(int i) throws NoSuchElementException {
        needImage(i);
        if (boardImages[i] == null || deedsImages[i] == null) {
            boardImages[i] = new Board(board.plan);
            deedsImages[i] = new Deeds();
        }
        boardImages[i].become(board);
        deedsImages[i].become(deeds);
    }

    public void restore(int i) throws NoSuchElementException, IllegalStateException {
        needImage(i);
        if (boardImages[i] == null || deedsImages[i] == null) {
            throw new IllegalStateException("no such image was made");
        }
        board.become(boardImages[i]);
        deeds.become(deedsImages[i]);
    }

    public int count(int what) {
        switch (what) {
            case 0:
                return board.plan.textLines;
            case 1:
                return board.plan.lines;
            case 2:
                return board.plan.cords;
            case 3:
                return board.calls();
            case 4:
            case 5:
            case 6:
            case 7:
                return board.tally(what - 4);
            case 8:
                return board.twosMarried();
            case 9:
                return board.minute();
            case 10:
                return deeds.many();
            case 11:
                return bytes;
            default:
                return NONE;
        }
    }

    // ---- what the calls ask of their arguments

    private static void needWithin(int n, int least, int most) {
        if (n < least || n > most) {
            throw new IllegalArgumentException("out of its bounds");
        }
    }

    private static void needMinutes(int n) {
        needWithin(n, 1, 999);
    }

    private void needLine(int l) {
        if (l < 0 || l >= board.plan.lines) {
            throw new NoSuchElementException("no such line");
        }
    }

    private void needCall(int c) {
        if (c < 0 || c >= board.calls()) {
            throw new NoSuchElementException("no such call");
        }
    }

    private static void needImage(int i) {
        if (i < 0 || i >= IMAGES) {
            throw new NoSuchElementException("no such image");
        }
    }

    private Tray anyTray(int tray) {
        if (tray < 0 || tray >= TRAYS) {
            throw new NoSuchElementException("no such tray");
        }
        return trays[tray];
    }

    private Tray toldTray(int tray) {
        Tray row = anyTray(tray);
        if (row.isMissing()) {
            throw new IllegalStateException("the tray is missing");
        }
        return row;
    }

    /** One to three twos of lines, each of unlike ones. */
    private void needTwos(Tray twos) {
        if (twos.many() % 2 != 0) {
            throw new IllegalArgumentException("not two by two");
        }
        needWithin(twos.many() / 2, 1, MOST_TWOS);
        needLinesIn(twos);
        for (int i = 0; i + 1 < twos.many(); i += 2) {
            if (twos.at(i) == twos.at(i + 1)) {
                throw new IllegalArgumentException("both are one line");
            }
        }
    }

    private void needThrees(Tray threes) {
        if (threes.many() % 3 != 0) {
            throw new IllegalArgumentException("not three by three");
        }
        needWithin(threes.many() / 3, 1, MOST_THREES);
        needLinesIn(threes);
    }

    private void needLinesIn(Tray told) {
        for (int i = 0; i < told.many(); i++) {
            if (told.at(i) < 0 || told.at(i) >= board.plan.lines) {
                throw new IllegalArgumentException("no line");
            }
        }
    }

    /** A row of numbers of one width, or none yet. */
    private static final class Tray {
        private final long[] row = new long[MOST_PLACES];
        private int sort = 0;
        private int many = NONE;

        boolean isMissing() {
            return many == NONE;
        }

        int many() {
            return Math.max(many, 0);
        }

        void makeOf(int newSort, int newMany) {
            Arrays.fill(row, 0L);
            sort = newSort;
            many = Math.min(newMany, MOST_PLACES);
        }

        long at(int place) {
            return place >= 0 && place < many() ? row[place] : 0L;
        }

        void put(int place, long v) {
            if (place >= 0 && place < many()) {
                row[place] = cut(v);
            }
        }

        private long cut(long v) {
            switch (sort) {
                case 0:
                    return (byte) v;
                case 1:
                    return (short) v;
                case 2:
                    return (int) v;
                default:
                    return v;
            }
        }
    }

    /** The tokens of a text, one at a time. */
    private static final class Tokens {
        static final int END = 0;
        static final int BAD = 1;
        static final int WORD = 2;
        static final int NUMBER = 3;
        static final int SIGN = 4;
        private static final String SIGNS = ";:+-*()[]=<>";
        private static final int MOST_DIGITS = 3;

        private final byte[] text;
        private int length = 0;
        private int next = 0;
        private int start = 0;
        private int kind = END;
        private int value = 0;

        Tokens(byte[] text) {
            this.text = text;
        }

        void open(int n) {
            length = Math.max(0, Math.min(n, text.length));
            next = 0;
            advance();
        }

        void advance() {
            while (next < length && (text[next] == 10 || text[next] == 32)) {
                next++;
            }
            start = next;
            if (start >= length) {
                kind = END;
                return;
            }
            value = text[start];
            if (value >= 'a' && value <= 'z') {
                skipRun('a', 'z');
                kind = WORD;
            } else if (value >= '0' && value <= '9') {
                skipRun('0', '9');
                kind = next - start > MOST_DIGITS ? BAD : NUMBER;
            } else {
                next++;
                kind = value > 32 && SIGNS.indexOf((char) value) >= 0 ? SIGN : BAD;
            }
        }

        private void skipRun(int least, int most) {
            while (next < length && text[next] >= least && text[next] <= most) {
                next++;
            }
        }

        int start() {
            return start;
        }

        /** Of a number, which has three digits at most. */
        int number() {
            int n = 0;
            for (int i = start; i < next && i < length; i++) {
                n = 10 * n + text[i] - '0';
            }
            return n;
        }

        boolean isEnd() {
            return kind == END;
        }

        boolean isBad() {
            return kind == BAD;
        }

        boolean isNumber() {
            return kind == NUMBER;
        }

        boolean isSign(char sign) {
            return kind == SIGN && value == sign;
        }

        boolean isWord(String word) {
            if (kind != WORD || next - start != word.length()) {
                return false;
            }
            for (int i = 0; i < word.length(); i++) {
                if (start + i >= length || text[start + i] != word.charAt(i)) {
                    return false;
                }
            }
            return true;
        }
    }

    /** Reads a text into a draft of an exchange, or finds its first fault. */
    private static final class Parser {
        static final int SLIPS = 0;
        static final int LIKES = 1;
        static final int MARRIES = 2;
        private static final int LAWS = 3;
        private static final int CALL_FACTS = 4;
        private static final int CANT_STAND = 2;
        private static final int OUT_OF_BOUNDS = 3;
        private static final int TOO_MANY = 4;

        private final Tokens tokens;
        private final int[] reach = new int[MOST_CORDS];
        private final int[] told = new int[MOST_CALLS * CALL_FACTS];
        private final int[] code = new int[MOST_BYTES];
        private final int[] lawFrom = new int[LAWS];
        private final int[] lawTill = new int[LAWS];
        private int lines = 2;
        private int cords = 0;
        private int calls = 0;
        private int minute = 0;
        private int textLines = 0;
        private int codes = 0;
        private int law = SLIPS;
        private int flaw = 0;
        private int flawPlace = NONE;

        Parser(Tokens tokens) {
            this.tokens = tokens;
        }

        int flaw() {
            return flaw;
        }

        int flawPlace() {
            return flawPlace;
        }

        int lines() {
            return lines;
        }

        int cords() {
            return cords;
        }

        int calls() {
            return calls;
        }

        int minute() {
            return minute;
        }

        int textLines() {
            return textLines;
        }

        int reachOf(int k) {
            return k >= 0 && k < cords && k < MOST_CORDS ? reach[k] : 0;
        }

        /** Of a call, from, to, its minute and how long it lasts, as what 0 to 3. */
        int toldOf(int c, int what) {
            boolean is = c >= 0 && c < calls && c < MOST_CALLS && what >= 0 && what < CALL_FACTS;
            return is ? told[c * CALL_FACTS + what] : 0;
        }

        /** The law that strikes, or null. */
        Law lawOf(int which) {
            if (which < 0 || which >= LAWS) {
                return null;
            }
            int from = lawFrom[which];
            int till = lawTill[which];
            if (from < 0 || from >= till || till > MOST_BYTES) {
                return null;
            }
            return new Law(Arrays.copyOfRange(code, from, till));
        }

        void read(int n) {
            clear();
            tokens.open(n);
            boolean good = readHead() && endLine();
            for (int i = 0; i < MOST_BYTES && good && !tokens.isEnd(); i++) {
                if (tokens.isWord("cord")) {
                    good = readCord();
                } else if (tokens.isWord("call")) {
                    good = readCall();
                } else if (tokens.isWord("slips")) {
                    good = readLaw(SLIPS);
                } else if (tokens.isWord("likes")) {
                    good = readLaw(LIKES);
                } else if (tokens.isWord("marries")) {
                    good = readLaw(MARRIES);
                } else if (tokens.isWord("minute")) {
                    good = readMinute();
                } else {
                    good = refuse(CANT_STAND);
                }
                good = good && endLine();
            }
        }

        private void clear() {
            lines = 2;
            cords = 0;
            calls = 0;
            minute = 0;
            textLines = 0;
            codes = 0;
            flaw = 0;
            flawPlace = NONE;
            Arrays.fill(lawFrom, 0);
            Arrays.fill(lawTill, 0);
        }

        private boolean refuse(int kind) {
            flaw = tokens.isBad() ? 1 : kind;
            flawPlace = tokens.start();
            return false;
        }

        private boolean takeWord(String word) {
            if (!tokens.isWord(word)) {
                return refuse(CANT_STAND);
            }
            tokens.advance();
            return true;
        }

        private boolean takeSign(char sign) {
            if (!tokens.isSign(sign)) {
                return refuse(CANT_STAND);
            }
            tokens.advance();
            return true;
        }

        /** A number within bounds and unlike another one; NONE if it is refused. */
        private int takeNumber(int least, int most, int unlike) {
            if (!tokens.isNumber()) {
                refuse(CANT_STAND);
                return NONE;
            }
            int n = tokens.number();
            if (n < least || n > most || n == unlike) {
                refuse(OUT_OF_BOUNDS);
                return NONE;
            }
            tokens.advance();
            return n;
        }

        private boolean endLine() {
            textLines++;
            return takeSign(';');
        }

        private boolean readHead() {
            if (!takeWord("lines")) {
                return false;
            }
            int n = takeNumber(2, MOST_LINES, NONE);
            if (n == NONE) {
                return false;
            }
            lines = n;
            return true;
        }

        private boolean readCord() {
            if (cords >= MOST_CORDS) {
                return refuse(TOO_MANY);
            }
            tokens.advance();
            int bits = 0;
            for (int i = 0; i < MOST_BYTES && tokens.isNumber(); i++) {
                int l = takeNumber(0, lines - 1, NONE);
                if (l == NONE) {
                    return false;
                }
                bits |= 1 << l;
            }
            reach[cords] = bits == 0 ? (1 << lines) - 1 : bits;
            cords++;
            return true;
        }

        private boolean readCall() {
            if (calls >= MOST_CALLS) {
                return refuse(TOO_MANY);
            }
            tokens.advance();
            int from = takeNumber(0, lines - 1, NONE);
            if (from == NONE || !takeWord("to")) {
                return false;
            }
            int to = takeNumber(0, lines - 1, from);
            if (to == NONE || !takeWord("at")) {
                return false;
            }
            int at = takeNumber(0, 999, NONE);
            if (at == NONE || !takeWord("lasts")) {
                return false;
            }
            int lasts = takeNumber(1, 99, NONE);
            if (lasts == NONE) {
                return false;
            }
            int place = calls * CALL_FACTS;
            told[place] = from;
            told[place + 1] = to;
            told[place + 2] = at;
            told[place + 3] = lasts;
            calls++;
            return true;
        }

        private boolean readMinute() {
            tokens.advance();
            int n = takeNumber(0, 999, NONE);
            if (n == NONE) {
                return false;
            }
            minute = n;
            return true;
        }

        private boolean readLaw(int which) {
            if (which < 0 || which >= LAWS) {
                return false;
            }
            tokens.advance();
            if (!takeSign(':')) {
                return false;
            }
            law = which;
            int from = codes;
            boolean good = which == MARRIES ? readTruth(0) : readSum(0);
            lawFrom[which] = from;
            lawTill[which] = codes;
            return good;
        }

        /** A text of 900 bytes has fewer codes than bytes, so there is always room. */
        private void emit(int one) {
            if (codes < MOST_BYTES) {
                code[codes] = one;
                codes++;
            }
        }

        private boolean readTruth(int depth) {
            boolean good = readBoth(depth);
            for (int i = 0; i < MOST_BYTES && good && tokens.isWord("or"); i++) {
                tokens.advance();
                good = readBoth(depth);
                emit(Law.OR);
            }
            return good;
        }

        private boolean readBoth(int depth) {
            boolean good = readUnit(depth);
            for (int i = 0; i < MOST_BYTES && good && tokens.isWord("and"); i++) {
                tokens.advance();
                good = readUnit(depth);
                emit(Law.AND);
            }
            return good;
        }

        private boolean readUnit(int depth) {
            if (tokens.isWord("not")) {
                boolean good = goDeeper(depth) && readUnit(depth + 1);
                emit(Law.NOT);
                return good;
            }
            if (tokens.isSign('[')) {
                return goDeeper(depth) && readTruth(depth + 1) && takeSign(']');
            }
            if (!readSum(depth)) {
                return false;
            }
            int sort = relation();
            if (sort == NONE) {
                return refuse(CANT_STAND);
            }
            tokens.advance();
            boolean good = readSum(depth);
            emit(sort);
            return good;
        }

        private boolean goDeeper(int depth) {
            if (depth >= MOST_NESTED) {
                return refuse(TOO_MANY);
            }
            tokens.advance();
            return true;
        }

        private int relation() {
            if (tokens.isSign('=')) {
                return Law.EQUAL;
            }
            if (tokens.isSign('<')) {
                return Law.LESS;
            }
            return tokens.isSign('>') ? Law.MORE : NONE;
        }

        private boolean readSum(int depth) {
            boolean good = readTerm(depth);
            for (int i = 0; i < MOST_BYTES && good && (tokens.isSign('+') || tokens.isSign('-')); i++) {
                int sort = tokens.isSign('+') ? Law.ADD : Law.TAKE;
                tokens.advance();
                good = readTerm(depth);
                emit(sort);
            }
            return good;
        }

        private boolean readTerm(int depth) {
            boolean good = readAtom(depth);
            for (int i = 0; i < MOST_BYTES && good && tokens.isSign('*'); i++) {
                tokens.advance();
                good = readAtom(depth);
                emit(Law.TIMES);
            }
            return good;
        }

        private boolean readAtom(int depth) {
            if (tokens.isSign('(')) {
                return goDeeper(depth) && readSum(depth + 1) && takeSign(')');
            }
            if (tokens.isNumber()) {
                emit(tokens.number());
                tokens.advance();
                return true;
            }
            int variable = law == LIKES ? variableOfLikes() : variableOfCalls();
            if (variable == NONE) {
                return refuse(CANT_STAND);
            }
            emit(Law.VARIABLE + variable);
            tokens.advance();
            return true;
        }

        private int variableOfLikes() {
            if (tokens.isWord("who")) {
                return 0;
            }
            return tokens.isWord("whom") ? 1 : NONE;
        }

        private int variableOfCalls() {
            if (tokens.isWord("from")) {
                return 0;
            }
            if (tokens.isWord("to")) {
                return 1;
            }
            if (tokens.isWord("minute")) {
                return 2;
            }
            if (tokens.isWord("call")) {
                return 3;
            }
            if (law == MARRIES && tokens.isWord("likes")) {
                return 4;
            }
            return law == MARRIES && tokens.isWord("liked") ? 5 : NONE;
        }
    }

    /** A law as code: numbers and variables come onto a stack, the others join what lies on it. */
    private static final class Law {
        static final int VARIABLE = 1000;
        static final int ADD = 2000;
        static final int TAKE = 2001;
        static final int TIMES = 2002;
        static final int EQUAL = 2003;
        static final int LESS = 2004;
        static final int MORE = 2005;
        static final int AND = 2006;
        static final int OR = 2007;
        static final int NOT = 2008;
        private static final int VARIABLES = 6;
        // Six within one another, two halfway results each, need below 20 beside the variables.
        private static final int ROOM = 32;
        private static final int BOUND = 1000000;

        private final int[] code;
        private final int[] stack = new int[ROOM];

        Law(int[] code) {
            this.code = code;
        }

        /** The variables lie lowest on the stack, in the order in which the document tells them. */
        void setVariables(int a, int b, int c, int d) {
            stack[0] = a;
            stack[1] = b;
            stack[2] = c;
            stack[3] = d;
        }

        void setLiking(int likes, int liked) {
            stack[4] = likes;
            stack[5] = liked;
        }

        int value() {
            int top = VARIABLES;
            for (int i = 0; i < code.length; i++) {
                int one = code[i];
                if (one < ADD) {
                    if (top < ROOM) {
                        stack[top] = plain(one);
                        top++;
                    }
                } else if (one == NOT) {
                    stack[top - 1] = 1 - stack[top - 1];
                } else if (top > VARIABLES + 1) {
                    top--;
                    stack[top - 1] = join(one, stack[top - 1], stack[top]);
                }
            }
            return stack[top - 1];
        }

        private int plain(int one) {
            int variable = one - VARIABLE;
            return variable >= 0 && variable < VARIABLES ? stack[variable] : one;
        }

        private static int join(int sort, int x, int y) {
            switch (sort) {
                case EQUAL:
                    return x == y ? 1 : 0;
                case LESS:
                    return x < y ? 1 : 0;
                case MORE:
                    return x > y ? 1 : 0;
                case AND:
                    return x & y;
                case OR:
                    return x | y;
                default:
                    break;
            }
            long v = sort == ADD ? (long) x + y : sort == TAKE ? (long) x - y : (long) x * y;
            if (v > BOUND) {
                return BOUND;
            }
            return v < -BOUND ? -BOUND : (int) v;
        }
    }

    /** What a text tells once for all: lines, cords and laws. It never changes, so images share it. */
    private static final class Plan {
        final int lines;
        final int cords;
        final int textLines;
        private final int[] reach = new int[MOST_CORDS];
        private final int[] liking = new int[MOST_LINES * MOST_LINES];
        final Law slips;
        private final Law marries;

        Plan(Parser draft) {
            lines = Math.max(2, Math.min(MOST_LINES, draft.lines()));
            cords = Math.max(0, Math.min(MOST_CORDS, draft.cords()));
            textLines = draft.textLines();
            for (int k = 0; k < cords; k++) {
                reach[k] = draft.reachOf(k);
            }
            slips = draft.lawOf(Parser.SLIPS);
            marries = draft.lawOf(Parser.MARRIES);
            Law likes = draft.lawOf(Parser.LIKES);
            for (int who = 0; likes != null && who < lines; who++) {
                for (int whom = 0; whom < lines; whom++) {
                    likes.setVariables(who, whom, 0, 0);
                    liking[who * MOST_LINES + whom] = likes.value();
                }
            }
        }

        int reachOf(int k) {
            return k >= 0 && k < MOST_CORDS ? reach[k] : 0;
        }

        boolean reaches(int k, int l, int m) {
            int both = 1 << l | 1 << m;
            return k >= 0 && k < MOST_CORDS && (reach[k] & both) == both;
        }

        int liking(int who, int whom) {
            boolean are = who >= 0 && who < MOST_LINES && whom >= 0 && whom < MOST_LINES;
            return are ? liking[who * MOST_LINES + whom] : 0;
        }

        boolean isWedding(int from, int came, int minute, int c) {
            if (marries == null) {
                return false;
            }
            marries.setVariables(from, came, minute % 60, c);
            marries.setLiking(liking(from, came), liking(came, from));
            return marries.value() != 0;
        }
    }

    /** The state of an exchange: its minute, calls, doors and who is married, all in one row. */
    private static final class Board {
        static final int FROM = 0;
        static final int TO = 1;
        static final int AT = 2;
        static final int LASTS = 3;
        static final int STATE = 4;
        static final int CAME = 5;
        static final int CORD = 6;
        static final int FACTS = 7;

        static final int TO_COME = 0;
        static final int ON = 1;
        static final int OVER = 2;
        static final int LOST = 3;

        static final int TOLD_DOOR = 100;
        static final int TOLD_PULL = 200;
        private static final int TOLD_END = 300;
        private static final int TOLD_LASTS = 5;

        private static final int MINUTE = 0;
        private static final int CALLS = 1;
        private static final int DOORS = 2;
        private static final int SPOUSES = 3;
        private static final int FIRST_CALL = SPOUSES + MOST_LINES;
        static final int CELLS = FIRST_CALL + MOST_CALLS * FACTS;

        private final int[] cells = new int[CELLS];
        private final Course course = new Course();
        Plan plan;

        Board(Plan plan) {
            this.plan = plan;
            clear();
        }

        void setUp(Plan told, Parser draft) {
            plan = told;
            clear();
            cells[MINUTE] = draft.minute();
            for (int c = 0; c < draft.calls(); c++) {
                addCall(draft.toldOf(c, FROM), draft.toldOf(c, TO), draft.toldOf(c, AT), draft.toldOf(c, LASTS));
            }
        }

        private void clear() {
            Arrays.fill(cells, 0);
            for (int l = 0; l < MOST_LINES; l++) {
                cells[SPOUSES + l] = NONE;
            }
        }

        void become(Board other) {
            plan = other.plan;
            System.arraycopy(other.cells, 0, cells, 0, CELLS);
        }

        void saveTo(int[] rows, int from) {
            if (from >= 0 && from <= rows.length - CELLS) {
                System.arraycopy(cells, 0, rows, from, CELLS);
            }
        }

        void takeFrom(int[] rows, int from) {
            if (from >= 0 && from <= rows.length - CELLS) {
                System.arraycopy(rows, from, cells, 0, CELLS);
            }
        }

        int minute() {
            return cells[MINUTE];
        }

        int calls() {
            return cells[CALLS];
        }

        private boolean isLine(int l) {
            return l >= 0 && l < plan.lines && l < MOST_LINES;
        }

        /** Of a call, what the document's call() tells of it; NONE if there is no such call. */
        int fact(int c, int what) {
            boolean is = c >= 0 && c < cells[CALLS] && c < MOST_CALLS && what >= 0 && what < FACTS;
            return is ? cells[FIRST_CALL + c * FACTS + what] : NONE;
        }

        private void setFact(int c, int what, int v) {
            if (c >= 0 && c < cells[CALLS] && c < MOST_CALLS && what >= 0 && what < FACTS) {
                cells[FIRST_CALL + c * FACTS + what] = v;
            }
        }

        boolean isToCome(int c) {
            return fact(c, STATE) == TO_COME;
        }

        boolean isOn(int c) {
            return fact(c, STATE) == ON;
        }

        /** Whether it is on or was so. */
        boolean wasOn(int c) {
            return fact(c, CAME) != NONE;
        }

        int endOf(int c) {
            return fact(c, AT) + fact(c, LASTS);
        }

        /** Whether a call joins, or has joined, two lines. */
        boolean joined(int c, int l, int m) {
            int from = fact(c, FROM);
            int came = fact(c, CAME);
            return from == l && came == m || from == m && came == l;
        }

        int bitsOf(int state) {
            int bits = 0;
            for (int c = 0; c < calls(); c++) {
                if (fact(c, STATE) == state) {
                    bits |= 1 << c;
                }
            }
            return bits;
        }

        int tally(int state) {
            return Integer.bitCount(bitsOf(state));
        }

        int speaksWith(int l) {
            for (int c = 0; c < calls(); c++) {
                if (isOn(c) && fact(c, FROM) == l) {
                    return fact(c, CAME);
                }
                if (isOn(c) && fact(c, CAME) == l) {
                    return fact(c, FROM);
                }
            }
            return NONE;
        }

        int callOn(int cord) {
            for (int c = 0; c < calls(); c++) {
                if (isOn(c) && fact(c, CORD) == cord) {
                    return c;
                }
            }
            return NONE;
        }

        int spouse(int l) {
            return isLine(l) ? cells[SPOUSES + l] : NONE;
        }

        private void marry(int l, int m) {
            if (isLine(l) && isLine(m)) {
                cells[SPOUSES + l] = m;
                cells[SPOUSES + m] = l;
            }
        }

        int twosMarried() {
            int many = 0;
            for (int l = 0; l < plan.lines; l++) {
                if (spouse(l) > l) {
                    many++;
                }
            }
            return many;
        }

        boolean isShut(int l) {
            return isLine(l) && (cells[DOORS] >> l & 1) == 1;
        }

        void turnDoor(int l) {
            if (isLine(l)) {
                cells[DOORS] ^= 1 << l;
            }
        }

        int whereTo(int c, int minute) {
            int to = fact(c, TO);
            Law slips = plan.slips;
            if (slips == null || plan.lines <= 0) {
                return to;
            }
            slips.setVariables(fact(c, FROM), to, minute % 60, c);
            return (to + Math.floorMod(slips.value(), plan.lines)) % plan.lines;
        }

        void neverBegin(int c) {
            setFact(c, STATE, OVER);
        }

        /** Why a deed can't be: 1 or 2; 0 if it can. */
        int whyNotRing(int l, int m, int lasts) {
            if (!isLine(l) || !isLine(m) || l == m || lasts < 1 || lasts > 99) {
                return 1;
            }
            return calls() >= MOST_CALLS ? 2 : 0;
        }

        int ring(int l, int m, int lasts) {
            return addCall(l, m, minute(), lasts);
        }

        private int addCall(int from, int to, int at, int lasts) {
            if (calls() >= MOST_CALLS) {
                return NONE;
            }
            int c = calls();
            cells[CALLS]++;
            setFact(c, FROM, from);
            setFact(c, TO, to);
            setFact(c, AT, at);
            setFact(c, LASTS, lasts);
            setFact(c, STATE, at < minute() ? LOST : TO_COME);
            setFact(c, CAME, NONE);
            setFact(c, CORD, NONE);
            return c;
        }

        int whyNotUnplug(int c) {
            if (c < 0 || c >= calls()) {
                return 1;
            }
            return isOn(c) ? 0 : 2;
        }

        int unplug(int c) {
            setFact(c, STATE, OVER);
            return fact(c, CORD);
        }

        int whyNotTold(long told) {
            if (told == NONE) {
                return 0;
            }
            if (told < 0 || told >= TOLD_END) {
                return 1;
            }
            int v = (int) told;
            if (v < TOLD_DOOR) {
                return whyNotRing(v / 10, v % 10, TOLD_LASTS);
            }
            if (v < TOLD_PULL) {
                return isLine(v - TOLD_DOOR) ? 0 : 1;
            }
            return whyNotUnplug(v - TOLD_PULL);
        }

        /** A told deed for which whyNotTold() was 0. */
        void doTold(long told) {
            if (told == NONE) {
                pass(1);
                return;
            }
            int v = (int) told;
            if (v < TOLD_DOOR) {
                ring(v / 10, v % 10, TOLD_LASTS);
            } else if (v < TOLD_PULL) {
                turnDoor(v - TOLD_DOOR);
            } else {
                unplug(v - TOLD_PULL);
            }
        }

        /** Lets minutes go by: how many calls are lost in them. */
        int pass(int n) {
            int end = minute() + n;
            int lost = 0;
            course.start(this);
            for (int i = 0; i < course.many(); i++) {
                int c = course.callAt(i);
                if (fact(c, AT) < end && !begins(c)) {
                    lost++;
                }
            }
            for (int c = 0; c < calls(); c++) {
                if (isOn(c) && endOf(c) < end) {
                    setFact(c, STATE, OVER);
                }
            }
            cells[MINUTE] = end;
            return lost;
        }

        /** A call's minute is there: whether it is on then; else it is lost. */
        private boolean begins(int c) {
            int at = fact(c, AT);
            int from = fact(c, FROM);
            int came = whereTo(c, at);
            int cord = course.takeCord(plan, from, came, at, endOf(c));
            if (cord == NONE) {
                setFact(c, STATE, LOST);
                return false;
            }
            setFact(c, STATE, ON);
            setFact(c, CAME, came);
            setFact(c, CORD, cord);
            boolean single = spouse(from) == NONE && spouse(came) == NONE;
            if (came != fact(c, TO) && single && plan.isWedding(from, came, at, c)) {
                marry(from, came);
            }
            return true;
        }
    }

    /** The calls to come in the order in which they begin, and from when on lines and cords are free for them. */
    private static final class Course {
        private static final int NEVER = 1000000;

        private final int[] order = new int[MOST_CALLS];
        private int many = 0;
        private final int[] lineFree = new int[MOST_LINES];
        private final int[] cordFree = new int[MOST_CORDS];
        private final int[] lineFreeFirst = new int[MOST_LINES];
        private final int[] cordFreeFirst = new int[MOST_CORDS];

        int many() {
            return many;
        }

        int callAt(int i) {
            return i >= 0 && i < many && i < MOST_CALLS ? order[i] : NONE;
        }

        void start(Board board) {
            many = 0;
            Arrays.fill(lineFree, 0);
            Arrays.fill(cordFree, 0);
            for (int c = 0; c < board.calls(); c++) {
                if (board.isToCome(c)) {
                    putInOrder(board, c);
                } else if (board.isOn(c)) {
                    hold(board.fact(c, Board.FROM), board.fact(c, Board.CAME), board.fact(c, Board.CORD), board.endOf(c));
                }
            }
            for (int l = 0; l < MOST_LINES; l++) {
                if (board.isShut(l)) {
                    lineFree[l] = NEVER;
                }
            }
            System.arraycopy(lineFree, 0, lineFreeFirst, 0, MOST_LINES);
            System.arraycopy(cordFree, 0, cordFreeFirst, 0, MOST_CORDS);
        }

        /** Once more from where it started. */
        void rewind() {
            System.arraycopy(lineFreeFirst, 0, lineFree, 0, MOST_LINES);
            System.arraycopy(cordFreeFirst, 0, cordFree, 0, MOST_CORDS);
        }

        /** By minutes, those of one minute by numbers: they come by numbers already. */
        private void putInOrder(Board board, int c) {
            if (many < 0 || many >= MOST_CALLS) {
                return;
            }
            int place = many;
            while (place > 0 && board.fact(order[place - 1], Board.AT) > board.fact(c, Board.AT)) {
                order[place] = order[place - 1];
                place--;
            }
            order[place] = c;
            many++;
        }

        private void hold(int l, int m, int cord, int end) {
            if (isLine(l) && isLine(m) && cord >= 0 && cord < MOST_CORDS) {
                lineFree[l] = end;
                lineFree[m] = end;
                cordFree[cord] = end;
            }
        }

        private static boolean isLine(int l) {
            return l >= 0 && l < MOST_LINES;
        }

        boolean areFree(int l, int m, int minute) {
            return isLine(l) && isLine(m) && lineFree[l] <= minute && lineFree[m] <= minute;
        }

        boolean isCordFree(int k, int minute) {
            return k >= 0 && k < MOST_CORDS && cordFree[k] <= minute;
        }

        /** The cord by which a call is on then, held till its end; NONE: it is lost. */
        int takeCord(Plan plan, int from, int came, int at, int end) {
            if (from == came || !areFree(from, came, at)) {
                return NONE;
            }
            for (int k = 0; k < plan.cords; k++) {
                if (isCordFree(k, at) && plan.reaches(k, from, came)) {
                    hold(from, came, k, end);
                    return k;
                }
            }
            return NONE;
        }
    }

    /** Boards as they were ahead of the latest deeds, the eldest of which are written over. */
    private static final class Deeds {
        private final int[] rows = new int[MOST_DEEDS * Board.CELLS];
        private int next = 0;
        private int many = 0;

        int many() {
            return many;
        }

        void forget() {
            many = 0;
        }

        void keep(Board before) {
            before.saveTo(rows, next * Board.CELLS);
            next = (next + 1) % MOST_DEEDS;
            many = Math.min(many + 1, MOST_DEEDS);
        }

        /** For n of 1 to many(). */
        void takeBack(Board board, int n) {
            next = Math.floorMod(next - n, MOST_DEEDS);
            many = Math.max(0, many - n);
            board.takeFrom(rows, next * Board.CELLS);
        }

        void become(Deeds other) {
            System.arraycopy(other.rows, 0, rows, 0, rows.length);
            next = other.next;
            many = other.many;
        }
    }

    /** The greatest set of calls to come that cords can take, all as they are meant. */
    private static final class Fitting {
        private final Course course = new Course();
        private final int[] takes = new int[MOST_CORDS];
        private final int[] used = new int[MOST_CORDS];
        private final int[] meets = new int[MOST_CALLS];
        private final int[] clashes = new int[MOST_CALLS];
        private int cords = 0;
        private int most = 0;
        private int mostBits = 0;

        int most() {
            return most;
        }

        int mostBits() {
            return mostBits;
        }

        void seekByBoard(Board board) {
            cords = Math.min(board.plan.cords, MOST_CORDS);
            int able = ableCalls(board);
            for (int k = 0; k < cords; k++) {
                takes[k] = able & takenBy(board, k);
            }
            seek(board);
        }

        void seekByCords(Board board, int freeCords) {
            cords = Math.max(0, Math.min(freeCords, MOST_CORDS));
            int able = ableCalls(board);
            for (int k = 0; k < cords; k++) {
                takes[k] = able;
            }
            seek(board);
        }

        /** Those, as bits, that no door and no call that is on keeps from being on. */
        private int ableCalls(Board board) {
            course.start(board);
            int bits = 0;
            for (int i = 0; i < course.many(); i++) {
                int c = course.callAt(i);
                int at = board.fact(c, Board.AT);
                boolean isAhead = at >= board.minute();
                if (isAhead && course.areFree(board.fact(c, Board.FROM), board.fact(c, Board.TO), at)) {
                    bits |= 1 << c;
                }
            }
            return bits;
        }

        private int takenBy(Board board, int k) {
            int bits = 0;
            for (int c = 0; c < board.calls(); c++) {
                boolean isReached = board.plan.reaches(k, board.fact(c, Board.FROM), board.fact(c, Board.TO));
                if (isReached && course.isCordFree(k, board.fact(c, Board.AT))) {
                    bits |= 1 << c;
                }
            }
            return bits;
        }

        private void seek(Board board) {
            int calls = Math.min(board.calls(), MOST_CALLS);
            for (int c = 0; c < calls; c++) {
                findOthers(board, c, calls);
            }
            int able = 0;
            for (int k = 0; k < cords && k < MOST_CORDS; k++) {
                able |= takes[k];
            }
            most = 0;
            mostBits = 0;
            // Sets rise as numbers, so the first of the greatest size is the least one.
            for (int set = 1; set < 1 << calls; set++) {
                if ((set & ~able) == 0 && Integer.bitCount(set) > most && !isAnyLineTwice(set)) {
                    Arrays.fill(used, 0);
                    if (fits(set, 0)) {
                        most = Integer.bitCount(set);
                        mostBits = set;
                    }
                }
            }
        }

        /** Which other calls meet a call in time, and which of these want one of its lines. */
        private void findOthers(Board board, int c, int calls) {
            int from = board.fact(c, Board.FROM);
            int to = board.fact(c, Board.TO);
            int both = 1 << from | 1 << to;
            int meeting = 0;
            int clashing = 0;
            for (int d = 0; d < calls; d++) {
                boolean apart = board.endOf(c) <= board.fact(d, Board.AT) || board.endOf(d) <= board.fact(c, Board.AT);
                if (d != c && !apart) {
                    meeting |= 1 << d;
                    int others = 1 << board.fact(d, Board.FROM) | 1 << board.fact(d, Board.TO);
                    clashing |= (both & others) != 0 ? 1 << d : 0;
                }
            }
            if (c >= 0 && c < MOST_CALLS) {
                meets[c] = meeting;
                clashes[c] = clashing;
            }
        }

        /** Whether two calls of a set want one line at one time. */
        private boolean isAnyLineTwice(int set) {
            for (int c = 0; c < MOST_CALLS; c++) {
                if ((set >> c & 1) == 1 && (clashes[c] & set) != 0) {
                    return true;
                }
            }
            return false;
        }

        /** Whether the calls of a set from c on, ten at most, find cords beside those used already. */
        private boolean fits(int set, int c) {
            if (c < 0 || c >= MOST_CALLS || set >> c == 0) {
                return true;
            }
            if ((set >> c & 1) == 0) {
                return fits(set, c + 1);
            }
            for (int k = 0; k < cords && k < MOST_CORDS; k++) {
                if ((takes[k] >> c & 1) == 1 && (used[k] & meets[c]) == 0) {
                    used[k] |= 1 << c;
                    if (fits(set, c + 1)) {
                        return true;
                    }
                    used[k] &= ~(1 << c);
                }
            }
            return false;
        }
    }

    /** The ways in which calls to come, led elsewhere than by the law, bring told twos together. */
    private static final class Crossing {
        private final Course course = new Course();
        private final int[] byLaw = new int[MOST_CALLS];
        private final int[] comes = new int[MOST_CALLS];
        private final int[] picks = new int[MOST_TWOS];
        private final int[] first = new int[MOST_TWOS];
        private int ways = 0;

        int ways() {
            return ways;
        }

        int firstOf(int i) {
            return ways > 0 && i >= 0 && i < MOST_TWOS ? first[i] : NONE;
        }

        /** The picks run like the digits of a number, the first two's highest, so the first way is the least. */
        void seek(Board board, Tray twos) {
            int calls = Math.min(board.calls(), MOST_CALLS);
            int many = Math.min(twos.many() / 2, MOST_TWOS);
            int end = 1;
            for (int i = 0; i < many; i++) {
                end *= calls;
            }
            for (int c = 0; c < calls; c++) {
                byLaw[c] = board.whereTo(c, board.fact(c, Board.AT));
            }
            course.start(board);
            ways = 0;
            for (int number = 0; number < end && calls > 0; number++) {
                int rest = number;
                for (int i = many - 1; i >= 0; i--) {
                    picks[i] = rest % calls;
                    rest /= calls;
                }
                int picked = leadPicks(board, twos, many);
                if (picked != 0 && bringsTogether(board, picked)) {
                    keepWay();
                }
            }
        }

        /** Leads each pick to the other line of its two: the picks as bits, or 0 if these can't be picks. */
        private int leadPicks(Board board, Tray twos, int many) {
            System.arraycopy(byLaw, 0, comes, 0, MOST_CALLS);
            int picked = 0;
            for (int i = 0; i < many && i < MOST_TWOS; i++) {
                int c = picks[i];
                int other = otherOf(twos, i, board.fact(c, Board.FROM));
                if (!board.isToCome(c) || (picked >> c & 1) == 1 || other == NONE || c < 0 || c >= MOST_CALLS) {
                    return 0;
                }
                picked |= 1 << c;
                comes[c] = other;
            }
            return picked;
        }

        /** The line of the i-th two beside one of them; NONE if that one is neither. */
        private static int otherOf(Tray twos, int i, int from) {
            int one = (int) twos.at(2 * i);
            int other = (int) twos.at(2 * i + 1);
            if (from == one) {
                return other;
            }
            return from == other ? one : NONE;
        }

        private boolean bringsTogether(Board board, int picked) {
            course.rewind();
            for (int i = 0; i < course.many(); i++) {
                int c = course.callAt(i);
                int came = c >= 0 && c < MOST_CALLS ? comes[c] : NONE;
                int at = board.fact(c, Board.AT);
                int cord = course.takeCord(board.plan, board.fact(c, Board.FROM), came, at, board.endOf(c));
                if (cord == NONE && (picked >> c & 1) == 1) {
                    return false;
                }
            }
            return true;
        }

        private void keepWay() {
            if (ways == 0) {
                System.arraycopy(picks, 0, first, 0, MOST_TWOS);
            }
            ways++;
        }
    }

    /** All ways to be paired, from the first on by the partners of line 0, 1 and so on. */
    private static final class Pairs {
        private static final int OPEN = -2;

        private final int[] with = new int[MOST_LINES];
        private final int[] steady = new int[MOST_LINES];
        private final int[] happy = new int[MOST_LINES];
        private Plan plan = null;
        private boolean someoneLeft = false;
        private int steadyWays = 0;
        private boolean anyHappy = false;
        private int happySum = 0;

        int steadyWays() {
            return steadyWays;
        }

        int steadyPartner(int l) {
            return l >= 0 && l < MOST_LINES ? steady[l] : NONE;
        }

        int happySum() {
            return happySum;
        }

        int happyPartner(int l) {
            return l >= 0 && l < MOST_LINES ? happy[l] : NONE;
        }

        /** Pairs hang on the plan alone, so one plan is surveyed once. */
        void survey(Plan told) {
            if (plan == told) {
                return;
            }
            plan = told;
            Arrays.fill(with, OPEN);
            Arrays.fill(steady, NONE);
            Arrays.fill(happy, NONE);
            someoneLeft = false;
            steadyWays = 0;
            anyHappy = false;
            happySum = 0;
            pairFrom(told, 0);
        }

        /** Pairs the lines from l on, eight at most. */
        private void pairFrom(Plan told, int l) {
            if (l < 0 || l >= told.lines || l >= MOST_LINES) {
                weigh(told);
                return;
            }
            if (with[l] != OPEN) {
                pairFrom(told, l + 1);
                return;
            }
            for (int m = l + 1; m < told.lines && m < MOST_LINES; m++) {
                if (with[m] == OPEN) {
                    with[l] = m;
                    with[m] = l;
                    pairFrom(told, l + 1);
                    with[m] = OPEN;
                }
            }
            if (told.lines % 2 == 1 && !someoneLeft) {
                someoneLeft = true;
                with[l] = NONE;
                pairFrom(told, l + 1);
                someoneLeft = false;
            }
            with[l] = OPEN;
        }

        private void weigh(Plan told) {
            if (firstToPart(told, with) == NONE) {
                if (steadyWays == 0) {
                    System.arraycopy(with, 0, steady, 0, told.lines);
                }
                steadyWays++;
            }
            int sum = 0;
            for (int l = 0; l < told.lines && l < MOST_LINES; l++) {
                sum += contentment(told, with, l);
            }
            if (!anyHappy || sum > happySum) {
                anyHappy = true;
                happySum = sum;
                System.arraycopy(with, 0, happy, 0, told.lines);
            }
        }

        /** The first two who would rather have each other, as 10 times the lesser and the other. */
        static int firstToPart(Plan told, int[] with) {
            for (int l = 0; l < told.lines && l < with.length; l++) {
                for (int m = l + 1; m < told.lines && m < with.length; m++) {
                    if (with[l] != m && told.liking(l, m) > contentment(told, with, l)
                            && told.liking(m, l) > contentment(told, with, m)) {
                        return 10 * l + m;
                    }
                }
            }
            return NONE;
        }

        /** How much a line likes whom it is with; 0 if it is alone. */
        private static int contentment(Plan told, int[] with, int l) {
            return l >= 0 && l < with.length && with[l] >= 0 ? told.liking(l, with[l]) : 0;
        }
    }
}
