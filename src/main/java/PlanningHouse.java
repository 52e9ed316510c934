import java.util.Arrays;

/**
 * A house that plans: it reads problems from texts on a tape, scores plans rule by rule, finds, counts
 * and proves the best ones, and keeps problems in a store. DOC.md says what every call answers.
 */
public final class PlanningHouse {
    /** There is none, or it can't be done. */
    public static final int NONE = -1;
    /** There is none such; no sum and no value is this. */
    public static final long NO = Long.MIN_VALUE;
    /** There is no room for that. */
    public static final int FULL = -100000;

    private static final int TAPE_ROOM = 20000;
    private static final int PROBLEMS = 4;
    private static final int FACTS = 16;
    private static final int VARS = 12;
    private static final int RULES = 24;
    private static final int AIMS = 6;
    private static final int HARD_RULES = 12;
    private static final int VALUES = 20;
    private static final int PLANS = 20000;
    private static final int LEVELS = 3;
    private static final int FUTURES = 6;
    private static final int TOP_FACT = 9999;
    private static final int TOP_COST = 1000;
    private static final int TOP_ODDS = 100;
    private static final int TOP_STEPS = 2000;

    private final Bytes tape;
    private final Tokens tokens;
    private final Reader reader;
    private final Problem[] problems;
    private final Hard hard;
    private final Search searcher;
    private final Proof proof;
    private final Store store;
    private Problem spare;
    private int lastFault;
    private long boardAbove;
    private long boardBelow;

    public PlanningHouse() {
        tape = new Bytes();
        tokens = new Tokens();
        reader = new Reader(tokens);
        problems = new Problem[PROBLEMS];
        hard = new Hard();
        searcher = new Search();
        proof = new Proof(tokens);
        store = new Store();
        spare = null;
        lastFault = 0;
        boardAbove = 0;
        boardBelow = 1;
    }

    // ---- the tape

    public int type(long w, int n) {
        if (n < 1 || n > 8) return NONE;
        if (tape.length + n > TAPE_ROOM) return FULL;
        tape.addNumber(w, n);
        return tape.length;
    }

    public int cut(int n) {
        if (n < 0 || n > tape.length) return NONE;
        int had = tape.length;
        tape.keep(n);
        return had;
    }

    public int spoil(int i, int by) {
        if (i < 0 || i >= tape.length) return NONE;
        tape.exchange(i, tape.at(i) ^ by);
        return tape.at(i);
    }

    public int tapeAt(int i) {
        return tape.at(i);
    }

    // ---- problems

    public int problem() {
        int p = freeNumber();
        if (p < 0) return FULL;
        Problem q = roomFor(p);
        q.text.become(tape, 0, tape.length);
        tape.keep(0);
        q.live = reader.read(q);
        lastFault = tokens.code;
        return q.live ? p : -1 - tokens.faultPlace;
    }

    public int fault() {
        return lastFault;
    }

    public boolean drop(int p) {
        Problem q = known(p);
        if (q == null) return false;
        q.live = false;
        return true;
    }

    public int count(int p, int what) {
        Problem q = known(p);
        if (q == null) return NONE;
        switch (what) {
            case 0: return q.counts[Problem.FACT];
            case 1: return q.counts[Problem.VAR];
            case 2: return q.counts[Problem.RULE];
            case 3: return q.counts[Problem.AIM];
            case 4: return q.space.plans;
            case 5: return q.space.agreeing(q.pins);
            case 6: return Integer.bitCount(q.judge.hardSet);
            case 7: return q.futures;
            case 8: return q.text.length;
            default: return NONE;
        }
    }

    public int find(int p) {
        Problem q = known(p);
        if (q == null) return NONE;
        tokens.scan(tape);
        if (tokens.kind != Tokens.NAME || tokens.place != 0 || tokens.end != tape.length) return NONE;
        int id = q.lookUp(tokens.key);
        return id < 0 ? NONE : 100 * (id / Problem.MOST) + id % Problem.MOST;
    }

    public int letter(int p, int kind, int k, int i) {
        Problem q = known(p);
        if (q == null || kind < Problem.FACT || kind > Problem.AIM) return NONE;
        if (k < 0 || k >= q.counts[kind]) return NONE;
        return letterOf(q.names[kind * Problem.MOST + k], i);
    }

    public int shown(int p, int k, int i) {
        Problem q = known(p);
        if (q == null || k < 0 || i < 0) return NONE;
        tokens.scan(q.text);
        int statement = 0;
        int left = i;
        for (int t = 0; t < tokens.count && statement <= k; t++) {
            boolean last = tokens.is(';');
            if (statement == k) {
                int wide = tokens.end - tokens.place;
                if (left < wide) return q.text.at(tokens.place + left);
                if (left == wide) return last ? NONE : ' ';
                left -= wide + 1;
            }
            if (last) statement++;
            tokens.step();
        }
        return NONE;
    }

    public long range(int p, int v, int k) {
        Problem q = known(p);
        if (q == null || !q.space.isVar(v) || k < 0 || k >= q.space.sizes[v]) return NO;
        return q.space.values[v * VALUES + k];
    }

    public int rule(int p, int r, int what) {
        Problem q = known(p);
        if (q == null || !q.isRule(r)) return NONE;
        switch (what) {
            case 0: return q.judge.levels[r];
            case 1: return q.judge.weights[r];
            case 2: return q.judge.varSets[r];
            case 3:
                q.table.renew(q);
                return q.table.everBroken >> r & 1;
            default: return NONE;
        }
    }

    // ---- plans, facts, pins

    public long fact(int p, int f) {
        Problem q = known(p);
        return q == null || !q.isFact(f) ? NO : q.facts[f];
    }

    public boolean change(int p, int f, int value) {
        Problem q = known(p);
        if (q == null || !q.isFact(f) || value < -TOP_FACT || value > TOP_FACT) return false;
        q.facts[f] = value;
        q.table.fresh = false;
        return true;
    }

    public long value(int p, int v) {
        Problem q = known(p);
        return q == null || !q.space.isVar(v) ? NO : q.space.valueOf(q.hand, v);
    }

    public boolean put(int p, int v, int value) {
        Problem q = known(p);
        if (q == null) return false;
        int k = q.space.placeOfValue(v, value);
        if (k < 0) return false;
        q.hand = q.space.moved(q.hand, v, k);
        return true;
    }

    public boolean pin(int p, int v, boolean is) {
        Problem q = known(p);
        if (q == null || !q.space.isVar(v)) return false;
        boolean was = (q.pins >> v & 1) != 0;
        q.pins = is ? q.pins | 1 << v : q.pins & ~(1 << v);
        return was;
    }

    public int weigh(int p, int v, int cost) {
        Problem q = known(p);
        if (q == null || !q.space.isVar(v) || cost < 0 || cost > TOP_COST) return NONE;
        int was = q.costs[v];
        q.costs[v] = cost;
        return was;
    }

    public int broken(int p, int r) {
        Problem q = known(p);
        if (q == null || !q.isRule(r)) return NONE;
        q.judge.look(q.space, q.hand);
        return q.judge.run(r, q.facts);
    }

    public long aim(int p, int a) {
        Problem q = known(p);
        if (q == null || a < 0 || a >= q.counts[Problem.AIM]) return NO;
        q.judge.look(q.space, q.hand);
        return q.judge.run(RULES + a, q.facts);
    }

    public long score(int p, int level) {
        Problem q = known(p);
        if (q == null || !isLevel(level)) return NO;
        q.judge.weighAll(q.space, q.hand, q.facts, q.one, 0);
        return q.one[level];
    }

    public boolean feasible(int p) {
        Problem q = known(p);
        if (q == null) return false;
        return (q.judge.weighAll(q.space, q.hand, q.facts, q.one, 0) & q.judge.hardSet) == 0;
    }

    // ---- what rules leave

    public int reach(int p) {
        Problem q = scored(p);
        return q == null ? NONE : hard.workOut(q);
    }

    public boolean isLeft(int p, int v, int k) {
        Problem q = scored(p);
        if (q == null || !q.space.isVar(v) || k < 0 || k >= q.space.sizes[v]) return false;
        hard.workOut(q);
        return (hard.left[v] >> k & 1) != 0;
    }

    public int hopeless(int p) {
        Problem q = scored(p);
        return q == null ? NONE : hard.alwaysBroken(q);
    }

    // ---- the best

    public int solve(int p) {
        Problem q = scored(p);
        if (q == null) return NONE;
        return q.table.gatherFor(q, true) > 0 && q.moveTo(q.table.list[0]) ? 1 : 0;
    }

    public long best(int p, int level) {
        Problem q = scored(p);
        if (q == null || !isLevel(level) || q.table.gatherFor(q, true) == 0) return NO;
        return q.table.scoreOf(q.table.list[0], level);
    }

    public int bests(int p) {
        Problem q = scored(p);
        return q == null ? NONE : q.table.gatherFor(q, true);
    }

    public boolean bestAt(int p, int k) {
        Problem q = scored(p);
        return q != null && k >= 0 && k < q.table.gatherFor(q, true) && q.moveTo(q.table.list[k]);
    }

    public int feasibles(int p) {
        Problem q = scored(p);
        return q == null ? NONE : q.table.gatherFor(q, false);
    }

    public boolean feasibleAt(int p, int k) {
        Problem q = scored(p);
        return q != null && k >= 0 && k < q.table.gatherFor(q, false) && q.moveTo(q.table.list[k]);
    }

    public int has(int p, int v, int value, boolean best) {
        Problem q = scored(p);
        if (q == null || !q.space.isVar(v)) return NONE;
        int all = q.table.gatherFor(q, best);
        int with = q.table.keepValue(q.space, v, q.space.placeOfValue(v, value));
        show(with, all);
        return with;
    }

    public int choices(int p, int v) {
        Problem q = scored(p);
        if (q == null || !q.space.isVar(v)) return NONE;
        q.table.gatherFor(q, true);
        return q.table.differentValues(q.space, v);
    }

    public int mend(int p, int set) {
        Problem q = scored(p);
        if (q == null) return NONE;
        q.table.gather(q, ~set);
        return q.table.keepBest() > 0 && q.moveTo(q.table.list[0]) ? 1 : 0;
    }

    // ---- several aims, near plans

    public int front(int p) {
        Problem q = scored(p);
        return q == null ? NONE : q.table.walkFront(q, NONE);
    }

    public long frontAt(int p, int k, int what) {
        Problem q = scored(p);
        if (q == null || k < 0 || !isLevel(what) || k >= q.table.walkFront(q, k)) return NO;
        return what == 0 ? q.table.pairPlans : q.table.scoreOf(q.table.pairFirst, what);
    }

    public boolean frontPlan(int p, int k) {
        Problem q = scored(p);
        return q != null && k >= 0 && k < q.table.walkFront(q, k) && q.moveTo(q.table.pairFirst);
    }

    public int near(int p, boolean best) {
        Problem q = scored(p);
        if (q == null || q.table.gatherFor(q, best) == 0) return NONE;
        int nearest = q.table.list[0];
        int least = q.costTo(nearest);
        for (int j = 1; j < q.table.listed; j++) {
            int costs = q.costTo(q.table.list[j]);
            if (costs < least) {
                least = costs;
                nearest = q.table.list[j];
            }
        }
        q.moveTo(nearest);
        return least;
    }

    // ---- none, and why

    public int clash(int p) {
        Problem q = scored(p);
        return q == null ? NONE : hard.narrowed(q);
    }

    public int fewest(int p) {
        Problem q = scored(p);
        return q == null ? NONE : hard.smallest(q);
    }

    public int relax(int p) {
        Problem q = scored(p);
        return q == null ? NONE : hard.cheapest(q);
    }

    public long without(int p, int r, int level) {
        Problem q = scored(p);
        if (q == null || !q.isRule(r) || !isLevel(level)) return NO;
        return q.bestLacking(r) ? q.sums[level] : NO;
    }

    public long whyNot(int p, int v, int value, int level) {
        Problem q = scored(p);
        if (q == null || !isLevel(level)) return NO;
        int plan = q.firstBestWith(v, value);
        return plan < 0 ? NO : q.table.scoreOf(plan, level);
    }

    public int because(int p, int v, int value) {
        Problem q = scored(p);
        if (q == null) return NONE;
        int plan = q.firstBestWith(v, value);
        if (plan < 0 || q.table.gatherFor(q, true) == 0) return NONE;
        return q.firstWorseRule(plan, q.table.list[0]);
    }

    // ---- futures

    public int future(int p, int odds) {
        Problem q = known(p);
        if (q == null || odds < 1 || odds > TOP_ODDS) return NONE;
        return q.futures >= FUTURES ? FULL : q.addFuture(odds);
    }

    public boolean told(int p, int u, int f, int value) {
        Problem q = known(p);
        if (q == null || u < 0 || u >= q.futures || !q.isFact(f)) return false;
        if (value < -TOP_FACT || value > TOP_FACT) return false;
        q.toldSets[u] |= 1 << f;
        q.toldValues[u * FACTS + f] = value;
        return true;
    }

    public int unfold(int p) {
        Problem q = known(p);
        if (q == null) return NONE;
        int were = q.futures;
        q.futures = 0;
        return were;
    }

    public int robust(int p) {
        Problem q = known(p);
        if (q == null) return NONE;
        int plan = q.futures == 0 ? NONE : q.mostRobust();
        return plan >= 0 && q.moveTo(plan) ? 1 : 0;
    }

    public long expected(int p, int level) {
        Problem q = known(p);
        if (q == null || q.futures == 0 || !isLevel(level)) return NO;
        q.sumOverFutures(q.hand);
        show(q.sums[level], q.allOdds());
        return q.sums[level];
    }

    public long regret(int p, int level) {
        Problem q = known(p);
        if (q == null || q.futures == 0 || !isLevel(level)) return NO;
        long most = NO;
        for (int u = 0; u < q.futures; u++) {
            long here = q.regretIn(u, level);
            if (here == NO) return NO;
            most = Math.max(most, here);
        }
        return most;
    }

    // ---- searches

    public int search(int p, int how, int length, int seed, int steps) {
        Problem q = known(p);
        if (q == null || steps < 0 || steps > TOP_STEPS || !Search.mayBe(how, length)) return NONE;
        return searcher.seek(q, how, length, seed, steps);
    }

    public int searched(int what) {
        if (!searcher.ran) return NONE;
        switch (what) {
            case 0: return searcher.trace;
            case 1: return searcher.seed;
            case 2: return searcher.keptStep;
            default: return NONE;
        }
    }

    // ---- proofs

    public int check(int p) {
        Problem q = scored(p);
        if (q == null) return FULL;
        boolean right = proof.isRight(q, tape);
        lastFault = tokens.code;
        return right ? 0 : -1 - tokens.faultPlace;
    }

    public int prove(int p) {
        Problem q = scored(p);
        if (q == null || q.table.beatsHand(q) || !proof.fits(q)) return NONE;
        proof.write(q, tape);
        return tape.length;
    }

    // ---- above, below

    public long above() {
        return boardAbove;
    }

    public long below() {
        return boardBelow;
    }

    // ---- the store

    public int save(int p) {
        Problem q = known(p);
        return q == null ? NONE : store.add(q);
    }

    public int load(int k) {
        int from = store.start(k);
        if (from < 0) return NONE;
        int p = freeNumber();
        if (p < 0) return FULL;
        Problem q = roomFor(p);
        int wide = store.textLength(store.bytes, from);
        q.text.become(store.bytes, from + Store.HEAD, wide);
        q.live = reader.read(q) && store.restore(store.bytes, from + Store.HEAD + wide, q);
        return q.live ? p : NONE;
    }

    public int rows() {
        return store.count;
    }

    public int size() {
        return store.bytes.length;
    }

    public int byteAt(int i) {
        return store.bytes.at(i);
    }

    public int crash(int n) {
        return n < 0 ? NONE : store.lose(n);
    }

    public int take() {
        store.export(tape);
        return tape.length;
    }

    public int bring() {
        int wanted = store.announced(tape);
        if (wanted < 0) return NONE;
        if (spare == null) spare = new Problem();
        int at = Store.EXPORT_HEAD;
        for (int i = 0; i < wanted; i++) {
            int wide = store.textLength(tape, at);
            if (wide < 0) return NONE;
            spare.text.become(tape, at + Store.HEAD, wide);
            if (!reader.read(spare)) return NONE;
            at = store.rowEnd(tape, at, spare);
            if (at < 0) return NONE;
            store.noteEnd(i, at - Store.EXPORT_HEAD);
        }
        if (at != tape.length - Store.SUM) return NONE;
        if (!store.hasRoom(wanted, at - Store.EXPORT_HEAD)) return FULL;
        store.append(tape, wanted, at - Store.EXPORT_HEAD);
        tape.keep(0);
        return wanted;
    }

    private static boolean isLevel(int level) {
        return level >= 0 && level < LEVELS;
    }

    private Problem known(int p) {
        if (p < 0 || p >= PROBLEMS) return null;
        Problem q = problems[p];
        return q != null && q.live ? q : null;
    }

    /** A problem whose table goes by its facts as they are. */
    private Problem scored(int p) {
        Problem q = known(p);
        if (q != null) q.table.renew(q);
        return q;
    }

    private int freeNumber() {
        for (int p = 0; p < PROBLEMS; p++) {
            Problem q = problems[p];
            if (q == null || !q.live) return p;
        }
        return NONE;
    }

    /** The rows of a number's problem are made once and used again, whatever is dropped. */
    private Problem roomFor(int p) {
        Problem q = problems[p];
        if (q != null) return q;
        Problem made = new Problem();
        problems[p] = made;
        return made;
    }

    private static int letterOf(long name, int i) {
        int letters = Problem.letters(name);
        return i < 0 || i >= letters ? NONE : (int) (name >>> 8 * (letters - 1 - i)) & 255;
    }

    /** Both are told in least terms; 0 / 1 when there is nothing below the line. */
    private void show(long part, long all) {
        long a = Math.abs(part);
        long b = all;
        for (int i = 0; i < 200 && b != 0; i++) {
            long rest = a % b;
            a = b;
            b = rest;
        }
        boardAbove = all == 0 || a == 0 ? 0 : part / a;
        boardBelow = all == 0 || a == 0 ? 1 : all / a;
    }

    /** A row of bytes that grows at its end; every byte is told as 0 .. 255. */
    static final class Bytes {
        private static final int FIRST_ROOM = 256;

        byte[] cells = new byte[FIRST_ROOM];
        int length = 0;

        int at(int i) {
            return i >= 0 && i < length && i < cells.length ? cells[i] & 255 : NONE;
        }

        void exchange(int i, int b) {
            if (i >= 0 && i < length && i < cells.length) cells[i] = (byte) b;
        }

        void keep(int n) {
            if (n >= 0 && n < length) length = n;
        }

        void add(int b) {
            makeRoom(length + 1);
            if (length < cells.length) cells[length++] = (byte) b;
        }

        /** The n lowest bytes of w, the highest of them first. */
        void addNumber(long w, int n) {
            for (int i = n - 1; i >= 0; i--) add((int) (w >>> 8 * i));
        }

        void addAll(Bytes from, int start, int n) {
            if (start < 0 || n < 0 || start > from.length - n) return;
            makeRoom(length + n);
            System.arraycopy(from.cells, start, cells, length, n);
            length += n;
        }

        void become(Bytes from, int start, int n) {
            length = 0;
            addAll(from, start, n);
        }

        /** What n bytes from a place on say, the highest one first. */
        long number(int start, int n) {
            long told = 0;
            for (int i = 0; i < n; i++) told = told << 8 | at(start + i) & 255;
            return told;
        }

        /** THE SUM of the bytes from a place to before another one. */
        long sum(int from, int to) {
            long s = 0;
            for (int i = from; i < to; i++) {
                s ^= at(i) & 255;
                s = (s << 53 | s >>> 11) * 0xC2B2AE3D27D4EB4FL;
            }
            return s;
        }

        private void makeRoom(int n) {
            if (n > cells.length) cells = Arrays.copyOf(cells, Math.max(n, 2 * cells.length));
        }
    }

    /**
     * The tokens of a text, the one that is come to, and the first fault that was told. Words have small
     * numbers as keys and signs their bytes, so that one look tells both apart.
     */
    static final class Tokens {
        static final int END = 0;
        static final int BAD = 1;
        static final int NAME = 2;
        static final int NUMBER = 3;
        static final int MARK = 4;

        static final int WORD_FACT = 0;
        static final int WORD_VAR = 1;
        static final int WORD_IN = 2;
        static final int WORD_RULE = 3;
        static final int WORD_AT = 4;
        static final int WORD_AIM = 5;
        static final int WORD_ALL = 6;
        static final int WORD_APART = 12;
        static final int WORD_ABS = 13;
        static final int WORD_MIN = 14;
        static final int WORD_MAX = 15;
        static final int WORD_PICK = 16;
        static final int LESS_OR_SAME = '<' << 8 | '=';
        static final int MORE_OR_SAME = '>' << 8 | '=';
        static final int UP_TO = '.' << 8 | '.';
        static final int ARROW = '-' << 8 | '>';

        /** fact var in rule at aim all row lex ring auto busy apart abs min max pick, by their bytes. */
        private static final long[] WORDS = {
            0x66616374L, 0x766172L, 0x696eL, 0x72756c65L, 0x6174L, 0x61696dL, 0x616c6cL, 0x726f77L, 0x6c6578L,
            0x72696e67L, 0x6175746fL, 0x62757379L, 0x6170617274L, 0x616273L, 0x6d696eL, 0x6d6178L, 0x7069636bL,
        };
        private static final String SIGNS = ";=#<>+-*()[]{},:&|~!.";
        private static final int FIRST_ROOM = 64;
        private static final int LONGEST_NAME = 8;
        private static final int LONGEST_NUMBER = 4;

        private int[] kinds = new int[FIRST_ROOM];
        private long[] keys = new long[FIRST_ROOM];
        private int[] places = new int[FIRST_ROOM];
        private int[] ends = new int[FIRST_ROOM];
        private int current = 0;
        int count = 0;
        int kind = END;
        long key = 0;
        int place = 0;
        int end = 0;
        int code = 0;
        int faultPlace = 0;

        /** All tokens are found, up to one that is none; the first one is come to, and there is no fault. */
        void scan(Bytes text) {
            count = 0;
            code = 0;
            faultPlace = 0;
            int from = 0;
            for (int i = 0; i <= text.length; i++) {
                from = afterBlanks(text, from);
                int b = text.at(from);
                if (b < 0) break;
                if (isLetter(b)) from = readName(text, from);
                else if (isFigure(b)) from = readNumber(text, from);
                else from = readSign(text, from);
                count++;
                if (kinds[count - 1] == BAD) break;
            }
            write(END, 0, text.length, text.length);
            current = NONE;
            step();
        }

        /** The next token is come to; behind the last one stands the end, and stays. */
        void step() {
            if (current < count) current++;
            if (current < 0 || current >= kinds.length) return;
            kind = kinds[current];
            key = keys[current];
            place = places[current];
            end = ends[current];
        }

        boolean is(int mark) {
            return kind == MARK && key == mark;
        }

        boolean accept(int mark) {
            if (kind != MARK || key != mark) return refuse();
            step();
            return true;
        }

        /** The token that is come to can't stand there. */
        boolean refuse() {
            code = kind == BAD ? 1 : 2;
            faultPlace = place;
            return false;
        }

        /** Nothing is read behind a fault, so that the first one stays. */
        boolean fail(int why, int where) {
            code = why;
            faultPlace = where;
            return false;
        }

        private static boolean isLetter(int b) {
            return (b | 32) >= 'a' && (b | 32) <= 'z';
        }

        private static boolean isFigure(int b) {
            return b >= '0' && b <= '9';
        }

        private static int afterBlanks(Bytes text, int from) {
            boolean remark = false;
            for (int i = from; i < text.length; i++) {
                int b = text.at(i);
                if (b == '\n') remark = false;
                else if (b == '%') remark = true;
                else if (!remark && b != ' ' && b != '\t' && b != '\r') return i;
            }
            return text.length;
        }

        private int readName(Bytes text, int from) {
            long letters = 0;
            int i = from;
            for (; i < text.length; i++) {
                int b = text.at(i);
                if (!isLetter(b) && !isFigure(b)) break;
                letters = letters << 8 | b;
            }
            if (i - from > LONGEST_NAME) return write(BAD, 0, from, i);
            for (int w = 0; w < WORDS.length; w++) {
                if (WORDS[w] == letters) return write(MARK, w, from, i);
            }
            return write(NAME, letters, from, i);
        }

        private int readNumber(Bytes text, int from) {
            long told = 0;
            int i = from;
            for (; i < text.length && isFigure(text.at(i)); i++) told = 10 * told + text.at(i) - '0';
            return write(i - from > LONGEST_NUMBER ? BAD : NUMBER, told, from, i);
        }

        private int readSign(Bytes text, int from) {
            int b = text.at(from);
            int pair = b << 8 | text.at(from + 1) & 255;
            if (pair == LESS_OR_SAME || pair == MORE_OR_SAME || pair == UP_TO || pair == ARROW) {
                return write(MARK, pair, from, from + 2);
            }
            return write(SIGNS.indexOf((char) b) < 0 ? BAD : MARK, b, from, from + 1);
        }

        /** Behind the last token; the place behind it. */
        private int write(int what, long told, int from, int to) {
            if (count >= kinds.length) {
                kinds = Arrays.copyOf(kinds, 2 * count);
                keys = Arrays.copyOf(keys, 2 * count);
                places = Arrays.copyOf(places, 2 * count);
                ends = Arrays.copyOf(ends, 2 * count);
            }
            kinds[count] = what;
            keys[count] = told;
            places[count] = from;
            ends[count] = to;
            return to;
        }
    }

    /** Reads the text of a problem; its fault stands in the tokens then. */
    static final class Reader {
        private static final int OPEN = 12;
        private static final int NAMES = 12;
        private static final int GROUPS = 40;
        private static final int SUMS = 20;
        private static final int STATES = 10;
        private static final int TOP_NUMBER = 9999;
        private static final int TOP_VALUE = 99;
        private static final int TOP_STATE = 9;
        private static final int TOP_WEIGHT = 1000;
        private static final long TOP_WORK = 20000000L;

        private final Tokens tokens;
        private Problem problem = null;
        private Judge judge = null;
        private long name = 0;
        private int namePlace = 0;
        private int number = 0;
        private int numberPlace = 0;
        private int open = 0;
        private int seenVars = 0;
        private final int[] listing = new int[2 * TOP_VALUE + 1];
        private int listed = 0;

        Reader(Tokens tokens) {
            this.tokens = tokens;
        }

        boolean read(Problem into) {
            problem = into;
            judge = into.judge;
            open = 0;
            into.clear();
            tokens.scan(into.text);
            for (int i = 0; i <= into.text.length; i++) {
                if (i > 0 && tokens.kind == Tokens.END) return isWhole();
                boolean fine;
                if (tokens.is(Tokens.WORD_FACT)) fine = factStatement();
                else if (tokens.is(Tokens.WORD_VAR)) fine = varStatement();
                else if (tokens.is(Tokens.WORD_RULE)) fine = ruleStatement();
                else if (tokens.is(Tokens.WORD_AIM)) fine = aimStatement();
                else fine = tokens.refuse();
                if (!fine) return false;
            }
            return false;
        }

        private boolean isWhole() {
            long work = (long) problem.space.plans * tokens.count;
            if (problem.space.vars > 0 && work <= TOP_WORK) return true;
            return tokens.fail(6, tokens.place);
        }

        private boolean factStatement() {
            if (!newName(Problem.FACT, FACTS) || !tokens.accept('=')) return false;
            if (!numeral(true, 0, TOP_NUMBER) || !tokens.accept(';')) return false;
            problem.facts[problem.counts[Problem.FACT]] = number;
            problem.tell(Problem.FACT, name);
            return true;
        }

        private boolean varStatement() {
            if (!newName(Problem.VAR, VARS) || !tokens.accept(Tokens.WORD_IN)) return false;
            listed = 0;
            boolean fine = tokens.is('{') ? valuesInBraces() : valuesFromTo();
            if (!fine || !tokens.accept(';')) return false;
            if (!problem.space.add(listing, listed)) return tokens.fail(6, namePlace);
            problem.tell(Problem.VAR, name);
            return true;
        }

        private boolean ruleStatement() {
            if (!newName(Problem.RULE, RULES) || !tokens.accept(Tokens.WORD_AT)) return false;
            if (!numeral(false, 0, LEVELS - 1)) return false;
            int level = number;
            if (level == 0 && Integer.bitCount(judge.hardSet) >= HARD_RULES) return tokens.fail(6, numberPlace);
            if (!tokens.accept('*') || !numeral(false, 1, TOP_WEIGHT) || !tokens.accept(':')) return false;
            int weight = number;
            int r = problem.counts[Problem.RULE];
            seenVars = 0;
            judge.begin(r);
            if (!test() || !tokens.accept(';')) return false;
            judge.finish(r, level);
            judge.describe(r, weight, seenVars);
            problem.tell(Problem.RULE, name);
            return true;
        }

        private boolean aimStatement() {
            if (!newName(Problem.AIM, AIMS) || !tokens.accept(Tokens.WORD_AT)) return false;
            if (!numeral(false, 1, LEVELS - 1) || !tokens.accept(':')) return false;
            int level = number;
            int part = RULES + problem.counts[Problem.AIM];
            judge.begin(part);
            if (!sum() || !tokens.accept(';')) return false;
            judge.finish(part, level);
            problem.tell(Problem.AIM, name);
            return true;
        }

        /** The word that begins a statement, and behind it a name that is not told yet. */
        private boolean newName(int sort, int most) {
            tokens.step();
            if (tokens.kind != Tokens.NAME) return tokens.refuse();
            name = tokens.key;
            namePlace = tokens.place;
            if (problem.lookUp(name) >= 0) return tokens.fail(3, namePlace);
            if (problem.counts[sort] >= most) return tokens.fail(6, namePlace);
            tokens.step();
            return true;
        }

        /** A NUMBER or, signed, an INT; the bounds are those of the NUMBER without its sign. */
        private boolean numeral(boolean signed, int least, int most) {
            boolean minus = signed && tokens.is('-');
            if (minus) tokens.step();
            if (tokens.kind != Tokens.NUMBER) return tokens.refuse();
            int told = (int) tokens.key;
            numberPlace = tokens.place;
            if (told < least || told > most) return tokens.fail(5, numberPlace);
            number = minus ? -told : told;
            tokens.step();
            return true;
        }

        private boolean valuesFromTo() {
            if (!numeral(true, 0, TOP_VALUE)) return false;
            int first = number;
            if (!tokens.accept(Tokens.UP_TO) || !numeral(true, 0, TOP_VALUE)) return false;
            if (number < first) return tokens.fail(5, numberPlace);
            for (int x = first; x <= number && listed < listing.length; x++) listing[listed++] = x;
            return true;
        }

        private boolean valuesInBraces() {
            for (int n = 0; n <= listing.length; n++) {
                if (n > 0 && !tokens.is(',')) return tokens.accept('}');
                tokens.step();
                if (!numeral(true, 0, TOP_VALUE)) return false;
                for (int i = 0; i < listed; i++) {
                    if (listing[i] == number) return tokens.fail(5, numberPlace);
                }
                if (listed < listing.length) listing[listed++] = number;
            }
            return tokens.refuse();
        }

        private boolean test() {
            if (!either()) return false;
            if (!tokens.is(Tokens.ARROW)) return true;
            if (!enter(Tokens.ARROW) || !test()) return false;
            open--;
            return judge.emit(Judge.THEN, 0);
        }

        private boolean either() {
            if (!both()) return false;
            for (int i = 0; i < TAPE_ROOM && tokens.is('|'); i++) {
                tokens.step();
                if (!both()) return false;
                judge.emit(Judge.OR, 0);
            }
            return true;
        }

        private boolean both() {
            if (!unit()) return false;
            for (int i = 0; i < TAPE_ROOM && tokens.is('&'); i++) {
                tokens.step();
                if (!unit()) return false;
                judge.emit(Judge.AND, 0);
            }
            return true;
        }

        private boolean unit() {
            if (tokens.is('~')) {
                if (!enter('~') || !unit()) return false;
                open--;
                return judge.emit(Judge.NOT, 0);
            }
            if (tokens.is('{')) return enter('{') && test() && leave('}');
            if (tokens.kind == Tokens.MARK && tokens.key >= Tokens.WORD_ALL && tokens.key <= Tokens.WORD_APART) {
                int op = Judge.ALL + (int) tokens.key - Tokens.WORD_ALL;
                tokens.step();
                judge.emit(op, judge.noted);
                return tokens.accept('(') && lists(op) && tokens.accept(')');
            }
            if (!sum()) return false;
            int op = comparison();
            if (op < 0) return tokens.refuse();
            tokens.step();
            return sum() && judge.emit(op, 0);
        }

        private int comparison() {
            if (tokens.is('=')) return Judge.SAME;
            if (tokens.is('#')) return Judge.OTHER;
            if (tokens.is('<')) return Judge.LESS;
            if (tokens.is(Tokens.LESS_OR_SAME)) return Judge.LESS_OR_SAME;
            if (tokens.is('>')) return Judge.MORE;
            return tokens.is(Tokens.MORE_OR_SAME) ? Judge.MORE_OR_SAME : NONE;
        }

        private boolean sum() {
            if (!term()) return false;
            for (int i = 0; i < TAPE_ROOM && (tokens.is('+') || tokens.is('-')); i++) {
                int op = tokens.is('+') ? Judge.PLUS : Judge.MINUS;
                tokens.step();
                if (!term()) return false;
                judge.emit(op, 0);
            }
            return true;
        }

        private boolean term() {
            if (!factor()) return false;
            for (int i = 0; i < TAPE_ROOM && tokens.is('*'); i++) {
                tokens.step();
                if (!factor()) return false;
                judge.emit(Judge.TIMES, 0);
            }
            return true;
        }

        private boolean factor() {
            if (tokens.kind == Tokens.NAME) return namedFactor();
            if (tokens.kind == Tokens.NUMBER) {
                judge.emit(Judge.NUMBER, (int) tokens.key);
                tokens.step();
                return true;
            }
            if (tokens.is('-')) {
                if (!enter('-') || !factor()) return false;
                open--;
                return judge.emit(Judge.NEGATE, 0);
            }
            if (tokens.is('(')) return enter('(') && sum() && leave(')');
            if (tokens.is('[')) return enter('[') && test() && leave(']') && judge.emit(Judge.HOLDS, 0);
            if (tokens.is(Tokens.WORD_ABS)) {
                tokens.step();
                return enter('(') && sum() && leave(')') && judge.emit(Judge.ABS, 0);
            }
            if (tokens.is(Tokens.WORD_MIN)) return extreme(Judge.MIN);
            if (tokens.is(Tokens.WORD_MAX)) return extreme(Judge.MAX);
            if (tokens.is(Tokens.WORD_PICK)) {
                tokens.step();
                return enter('(') && sum() && tokens.accept(':') && judge.emit(Judge.PICK, judge.noted)
                    && numerals(true, SUMS, TOP_NUMBER) && leave(')');
            }
            return tokens.refuse();
        }

        private boolean extreme(int op) {
            tokens.step();
            if (!enter('(') || !sum()) return false;
            for (int n = 1; n < SUMS && tokens.is(','); n++) {
                tokens.step();
                if (!sum()) return false;
                judge.emit(op, 0);
            }
            return leave(')');
        }

        private boolean namedFactor() {
            int id = problem.lookUp(tokens.key);
            int sort = id < 0 ? NONE : id / Problem.MOST;
            int k = id % Problem.MOST;
            if (sort == Problem.FACT) judge.emit(Judge.FACT, k);
            else if (sort == Problem.VAR) judge.emit(Judge.VAR, k);
            else return tokens.fail(4, tokens.place);
            if (sort == Problem.VAR) seenVars |= 1 << k;
            tokens.step();
            return true;
        }

        /** What may be open twelve times at once begins. */
        private boolean enter(int mark) {
            if (!tokens.is(mark)) return tokens.refuse();
            if (open >= OPEN) return tokens.fail(7, tokens.place);
            open++;
            tokens.step();
            return true;
        }

        private boolean leave(int mark) {
            open--;
            return tokens.accept(mark);
        }

        private boolean lists(int op) {
            if (op == Judge.APART) return groups("vvnn", 4);
            if (op == Judge.BUSY) {
                if (!numeral(false, 0, TOP_NUMBER)) return false;
                judge.note(number);
                return tokens.accept(':') && groups("vnn", 3);
            }
            int n = names(1, NAMES);
            if (n < 0) return false;
            if (op == Judge.ALL || op == Judge.RING) return true;
            if (!tokens.accept(':')) return false;
            if (op == Judge.LEX) return names(n, n) == n;
            if (op == Judge.ROW) return groups("i", n);
            return groups("sis", 3) && tokens.accept(':') && numerals(false, STATES, TOP_STATE);
        }

        /** How many there are is noted, and behind that each; how many, or NONE with a fault. */
        private int names(int least, int most) {
            int head = judge.note(0);
            for (int n = 1; n <= most; n++) {
                if (!variable()) return NONE;
                judge.amend(head, n);
                if (n == most || n >= least && !tokens.is(',')) return n;
                if (!tokens.accept(',')) return NONE;
            }
            return NONE;
        }

        private boolean numerals(boolean signed, int most, int top) {
            int head = judge.note(0);
            for (int n = 1; n <= most; n++) {
                if (!numeral(signed, 0, top)) return false;
                judge.note(number);
                judge.amend(head, n);
                if (n == most || !tokens.is(',')) return true;
                tokens.step();
            }
            return true;
        }

        /** Groups in round brackets; a shape tells each entry, its last sign all further ones. */
        private boolean groups(String shape, int wide) {
            int head = judge.note(0);
            for (int n = 1; n <= GROUPS; n++) {
                for (int j = 0; j < wide; j++) {
                    char entry = shape.charAt(Math.min(j, shape.length() - 1));
                    if (!tokens.accept(j == 0 ? '(' : ',')) return false;
                    if (!(entry == 'v' ? variable() : numeral(entry == 'i', 0, entry == 's' ? TOP_STATE : TOP_NUMBER))) {
                        return false;
                    }
                    if (entry != 'v') judge.note(number);
                }
                if (!tokens.accept(')')) return false;
                judge.amend(head, n);
                if (n == GROUPS || !tokens.is(',')) return true;
                tokens.step();
            }
            return true;
        }

        private boolean variable() {
            if (tokens.kind != Tokens.NAME) return tokens.refuse();
            int id = problem.lookUp(tokens.key);
            if (id < 0 || id / Problem.MOST != Problem.VAR) return tokens.fail(4, tokens.place);
            int v = id % Problem.MOST;
            seenVars |= 1 << v;
            judge.note(v);
            tokens.step();
            return true;
        }
    }

    /** All plans of some ranges, numbered in their order: the last var changes with each number. */
    static final class Space {
        int vars = 0;
        int plans = 1;
        final int[] sizes = new int[VARS];
        final int[] values = new int[VARS * VALUES];
        private final int[] strides = new int[VARS];

        void clear() {
            vars = 0;
            plans = 1;
        }

        /** False when there are too many values or plans, and nothing changes then. */
        boolean add(int[] range, int n) {
            if (vars >= VARS || n < 1 || n > VALUES || n > range.length || plans * n > PLANS) return false;
            for (int v = 0; v < vars; v++) strides[v] *= n;
            for (int k = 0; k < n; k++) values[vars * VALUES + k] = range[k];
            sizes[vars] = n;
            strides[vars] = 1;
            plans *= n;
            vars++;
            return true;
        }

        boolean isVar(int v) {
            return v >= 0 && v < vars;
        }

        int placeOf(int plan, int v) {
            if (v < 0 || v >= vars || strides[v] < 1 || sizes[v] < 1) return 0;
            return plan / strides[v] % sizes[v];
        }

        int valueOf(int plan, int v) {
            if (v < 0 || v >= vars || strides[v] < 1 || sizes[v] < 1) return 0;
            return values[v * VALUES + plan / strides[v] % sizes[v]];
        }

        int placeOfValue(int v, int value) {
            if (v < 0 || v >= vars) return NONE;
            for (int k = 0; k < sizes[v]; k++) {
                if (values[v * VALUES + k] == value) return k;
            }
            return NONE;
        }

        int moved(int plan, int v, int k) {
            if (v < 0 || v >= vars) return plan;
            return plan + (k - placeOf(plan, v)) * strides[v];
        }

        /** How many plans agree in the vars of a set. */
        int agreeing(int fixed) {
            int all = 1;
            for (int v = 0; v < vars; v++) {
                if ((fixed >> v & 1) == 0) all *= sizes[v];
            }
            return all;
        }

        /** The first plan that agrees with one in the vars of a set. */
        int lowest(int plan, int fixed) {
            int low = plan;
            for (int v = 0; v < vars; v++) {
                if ((fixed >> v & 1) == 0) low -= placeOf(low, v) * strides[v];
            }
            return low;
        }

        /** The next plan that agrees with one in the vars of a set; NONE behind the last one. */
        int following(int plan, int fixed) {
            int next = plan;
            for (int v = vars - 1; v >= 0; v--) {
                if ((fixed >> v & 1) != 0) continue;
                int k = placeOf(next, v);
                if (k + 1 < sizes[v]) return next + strides[v];
                next -= k * strides[v];
            }
            return NONE;
        }
    }

    /**
     * What rules and aims say, as steps for a stack: parts 0 .. 23 are rules, those behind them aims. A step
     * is two numbers, what to do and with what; lists stand apart, and a step has their place.
     */
    static final class Judge {
        static final int NUMBER = 0;
        static final int FACT = 1;
        static final int VAR = 2;
        static final int NEGATE = 3;
        static final int ABS = 4;
        static final int HOLDS = 5;
        static final int NOT = 6;
        static final int PICK = 7;
        static final int PLUS = 8;
        static final int MINUS = 9;
        static final int TIMES = 10;
        static final int MIN = 11;
        static final int MAX = 12;
        static final int SAME = 13;
        static final int OTHER = 14;
        static final int LESS = 15;
        static final int LESS_OR_SAME = 16;
        static final int MORE = 17;
        static final int MORE_OR_SAME = 18;
        static final int AND = 19;
        static final int OR = 20;
        static final int THEN = 21;
        static final int ALL = 22;
        static final int ROW = 23;
        static final int LEX = 24;
        static final int RING = 25;
        static final int AUTO = 26;
        static final int BUSY = 27;
        static final int APART = 28;

        private static final int PARTS = RULES + AIMS;
        private static final int FIRST_ROOM = 128;
        /** Twelve things that are open have some six waiting numbers each. */
        private static final int STACK = 128;
        private static final int HELD = 1000000;

        int hardSet = 0;
        int rules = 0;
        int aims = 0;
        int noted = 0;
        final int[] levels = new int[PARTS];
        final int[] weights = new int[RULES];
        final int[] varSets = new int[RULES];
        private final int[] starts = new int[PARTS];
        private final int[] ends = new int[PARTS];
        private int[] steps = new int[FIRST_ROOM];
        private int used = 0;
        private int[] notes = new int[FIRST_ROOM];
        private final int[] stack = new int[STACK];
        private int depth = 0;
        private final int[] seen = new int[VARS];

        void clear() {
            hardSet = 0;
            rules = 0;
            aims = 0;
            noted = 0;
            used = 0;
        }

        void begin(int part) {
            if (part >= 0 && part < PARTS) starts[part] = used;
        }

        void finish(int part, int level) {
            if (part < 0 || part >= PARTS) return;
            ends[part] = used;
            levels[part] = level;
            if (part >= RULES) aims = part - RULES + 1;
        }

        void describe(int r, int weight, int vars) {
            if (r < 0 || r >= RULES) return;
            weights[r] = weight;
            varSets[r] = vars;
            if (levels[r] == 0) hardSet |= 1 << r;
            rules = r + 1;
        }

        /** Always true, so that it may end a chain of conditions. */
        boolean emit(int what, int with) {
            if (used + 2 > steps.length) steps = Arrays.copyOf(steps, 2 * steps.length);
            if (used + 2 > steps.length) return true;
            steps[used] = what;
            steps[used + 1] = with;
            used += 2;
            return true;
        }

        /** The place at which it is noted. */
        int note(int x) {
            if (noted >= notes.length) notes = Arrays.copyOf(notes, 2 * notes.length);
            if (noted >= notes.length) return NONE;
            notes[noted] = x;
            return noted++;
        }

        void amend(int i, int x) {
            if (i >= 0 && i < noted) notes[i] = x;
        }

        boolean isPart(int part) {
            return part >= 0 && part < rules || part >= RULES && part < RULES + aims;
        }

        /** The values of a plan are those that parts see from now on. */
        void look(Space space, int plan) {
            for (int v = 0; v < space.vars && v < seen.length; v++) seen[v] = space.valueOf(plan, v);
        }

        /** By what a rule is broken, or what an aim is, for the values that are seen. */
        int run(int part, int[] facts) {
            if (part < 0 || part >= PARTS) return 0;
            depth = 0;
            int to = Math.min(ends[part], steps.length);
            for (int i = Math.max(starts[part], 0); i + 1 < to; i += 2) {
                int what = steps[i];
                int with = steps[i + 1];
                if (what <= VAR) {
                    push(leaf(what, with, facts));
                } else if (what < PICK) {
                    push(ofOne(what, pop()));
                } else if (what == PICK) {
                    push(picked(with, pop()));
                } else if (what < ALL) {
                    int b = pop();
                    push(ofTwo(what, pop(), b));
                } else {
                    push(ofMany(what, with));
                }
            }
            return pop();
        }

        /** The scores of a plan at the three levels, from a place of a row on; the set of rules that it breaks. */
        int weighAll(Space space, int plan, int[] facts, long[] into, int at) {
            if (at < 0 || at > into.length - LEVELS) return 0;
            look(space, plan);
            for (int level = 0; level < LEVELS; level++) into[at + level] = 0;
            int set = 0;
            for (int r = 0; r < rules; r++) {
                int by = run(r, facts);
                if (by > 0) set |= 1 << r;
                into[at + levels[r]] += (long) weights[r] * by;
            }
            for (int a = 0; a < aims; a++) into[at + levels[RULES + a]] += run(RULES + a, facts);
            return set;
        }

        private void push(int x) {
            if (depth < STACK) stack[depth++] = x;
        }

        private int pop() {
            return depth > 0 && depth <= STACK ? stack[--depth] : 0;
        }

        private int leaf(int what, int with, int[] facts) {
            if (what == NUMBER) return with;
            int[] row = what == FACT ? facts : seen;
            return with >= 0 && with < row.length ? row[with] : 0;
        }

        private static int held(long x) {
            return (int) Math.max(-HELD, Math.min(HELD, x));
        }

        private static int ofOne(int what, int a) {
            switch (what) {
                case NEGATE: return held(-(long) a);
                case ABS: return held(Math.abs((long) a));
                default: return a == 0 ? 1 : 0;
            }
        }

        private static int ofTwo(int what, int a, int b) {
            switch (what) {
                case PLUS: return held((long) a + b);
                case MINUS: return held((long) a - b);
                case TIMES: return held((long) a * b);
                case MIN: case OR: return Math.min(a, b);
                case MAX: return Math.max(a, b);
                case SAME: return Math.abs(a - b);
                case OTHER: return a == b ? 1 : 0;
                case LESS: return Math.max(0, a - b + 1);
                case LESS_OR_SAME: return Math.max(0, a - b);
                case MORE: return Math.max(0, b - a + 1);
                case MORE_OR_SAME: return Math.max(0, b - a);
                case AND: return Math.min(HELD, a + b);
                default: return a == 0 ? b : 0;
            }
        }

        private int ofMany(int what, int at) {
            switch (what) {
                case ALL: return repeated(at);
                case ROW: return offRows(at);
                case LEX: return outOfOrder(at);
                case RING: return offRound(at);
                case AUTO: return astray(at);
                case BUSY: return overload(at);
                default: return overlaps(at);
            }
        }

        private int noteAt(int i) {
            return i >= 0 && i < noted && i < notes.length ? notes[i] : 0;
        }

        /** The value of the var that is noted at a place. */
        private int valueAt(int i) {
            if (i < 0 || i >= noted || i >= notes.length) return 0;
            int v = notes[i];
            return v >= 0 && v < seen.length ? seen[v] : 0;
        }

        private int picked(int at, int s) {
            return s >= 0 && s < noteAt(at) ? noteAt(at + 1 + s) : 0;
        }

        private int repeated(int at) {
            int n = noteAt(at);
            int again = 0;
            for (int i = 1; i <= n; i++) {
                boolean before = false;
                for (int j = 1; j < i; j++) before |= valueAt(at + j) == valueAt(at + i);
                if (before) again++;
            }
            return again;
        }

        private int offRows(int at) {
            int n = noteAt(at);
            int rows = noteAt(at + 1 + n);
            int least = n;
            for (int r = 0; r < rows; r++) {
                int row = at + 2 + n + r * n;
                int other = 0;
                for (int i = 0; i < n; i++) {
                    if (valueAt(at + 1 + i) != noteAt(row + i)) other++;
                }
                least = Math.min(least, other);
            }
            return least;
        }

        private int outOfOrder(int at) {
            int n = noteAt(at);
            for (int i = 1; i <= n; i++) {
                int a = valueAt(at + i);
                int b = valueAt(at + 1 + n + i);
                if (a != b) return a > b ? 1 : 0;
            }
            return 0;
        }

        private int offRound(int at) {
            int n = noteAt(at);
            int met = 0;
            int away = 0;
            int from = NONE;
            for (int i = 0; i < n; i++) {
                int next = valueAt(at + 1 + i);
                if (next < 0 || next >= n || (met >> next & 1) != 0) return 1;
                met |= 1 << next;
                if (next == i) continue;
                away++;
                from = i;
            }
            if (away == 0) return 0;
            int round = 1;
            for (int i = valueAt(at + 1 + from); i != from && round <= n; i = valueAt(at + 1 + i)) round++;
            return round == away ? 0 : 1;
        }

        private int astray(int at) {
            int n = noteAt(at);
            int arrows = at + 1 + n;
            int many = noteAt(arrows);
            int states = arrows + 1 + 3 * many;
            int state = 0;
            for (int i = 1; i <= n; i++) {
                int next = NONE;
                for (int j = 0; j < many && next < 0; j++) {
                    int arrow = arrows + 1 + 3 * j;
                    if (noteAt(arrow) == state && noteAt(arrow + 1) == valueAt(at + i)) next = noteAt(arrow + 2);
                }
                if (next < 0) return 1;
                state = next;
            }
            for (int i = 1; i <= noteAt(states); i++) {
                if (noteAt(states + i) == state) return 0;
            }
            return 1;
        }

        /** The greatest sum is that at some task's first moment, for between those heights only go. */
        private int overload(int at) {
            int tasks = noteAt(at + 1);
            int most = 0;
            for (int j = 0; j < tasks; j++) {
                int time = valueAt(at + 2 + 3 * j);
                int together = 0;
                for (int i = 0; i < tasks; i++) {
                    int task = at + 2 + 3 * i;
                    int start = valueAt(task);
                    if (start <= time && time < start + noteAt(task + 1)) together += noteAt(task + 2);
                }
                most = Math.max(most, together);
            }
            return Math.max(0, most - noteAt(at));
        }

        private int overlaps(int at) {
            int boxes = noteAt(at);
            int pairs = 0;
            for (int i = 0; i < boxes; i++) {
                int a = at + 1 + 4 * i;
                for (int j = i + 1; j < boxes; j++) {
                    int b = at + 1 + 4 * j;
                    boolean across = valueAt(a) < valueAt(b) + noteAt(b + 2) && valueAt(b) < valueAt(a) + noteAt(a + 2);
                    boolean upwards = valueAt(a + 1) < valueAt(b + 1) + noteAt(b + 3)
                        && valueAt(b + 1) < valueAt(a + 1) + noteAt(a + 3);
                    if (across && upwards) pairs++;
                }
            }
            return pairs;
        }
    }

    /** A problem as it was read, and what became of it: facts, plan at hand, pins, costs, futures. */
    static final class Problem {
        static final int FACT = 0;
        static final int VAR = 1;
        static final int RULE = 2;
        static final int AIM = 3;
        /** No sort has more names than this. */
        static final int MOST = RULES;
        private static final int SORTS = 4;

        boolean live = false;
        final Bytes text = new Bytes();
        final long[] names = new long[SORTS * MOST];
        final int[] counts = new int[SORTS];
        final Space space = new Space();
        final Judge judge = new Judge();
        final Table table = new Table();
        final int[] facts = new int[FACTS];
        int hand = 0;
        int pins = 0;
        final int[] costs = new int[VARS];
        int futures = 0;
        final int[] toldSets = new int[FUTURES];
        final int[] toldValues = new int[FUTURES * FACTS];
        final long[] one = new long[LEVELS];
        final long[] sums = new long[LEVELS];
        private final int[] odds = new int[FUTURES];
        private final int[] seenFacts = new int[FACTS];
        private final long[] trial = new long[LEVELS];

        /** As a problem is before its text is read. */
        void clear() {
            live = false;
            Arrays.fill(counts, 0);
            space.clear();
            judge.clear();
            table.fresh = false;
            hand = 0;
            pins = 0;
            Arrays.fill(costs, 1);
            futures = 0;
        }

        void tell(int sort, long name) {
            if (sort < 0 || sort >= SORTS || counts[sort] >= MOST) return;
            names[sort * MOST + counts[sort]] = name;
            counts[sort]++;
        }

        /** MOST times its sort, and its number; NONE for a name that is not told. */
        int lookUp(long name) {
            for (int sort = 0; sort < SORTS; sort++) {
                for (int k = 0; k < counts[sort]; k++) {
                    if (names[sort * MOST + k] == name) return sort * MOST + k;
                }
            }
            return NONE;
        }

        static int letters(long name) {
            int n = 0;
            for (long rest = name; rest != 0 && n < 8; rest >>>= 8) n++;
            return n;
        }

        boolean isFact(int f) {
            return f >= 0 && f < counts[FACT];
        }

        boolean isRule(int r) {
            return r >= 0 && r < counts[RULE];
        }

        /** Always true, so that it may end a chain of conditions. */
        boolean moveTo(int plan) {
            hand = plan;
            return true;
        }

        /** What it costs to differ from the plan at hand as a plan does. */
        int costTo(int plan) {
            int all = 0;
            for (int v = 0; v < space.vars; v++) {
                if (space.placeOf(plan, v) != space.placeOf(hand, v)) all += costs[v];
            }
            return all;
        }

        /** The first of the best feasible allowed plans in which a var has a value; NONE. */
        int firstBestWith(int v, int value) {
            int k = space.placeOfValue(v, value);
            if (k < 0) return NONE;
            table.gather(this, pins);
            table.keepValue(space, v, k);
            return table.keepBest() > 0 ? table.list[0] : NONE;
        }

        /** The first rule that a plan breaks by more than another one; NONE. */
        int firstWorseRule(int plan, int other) {
            for (int r = 0; r < counts[RULE]; r++) {
                judge.look(space, plan);
                int by = judge.run(r, facts);
                judge.look(space, other);
                if (by > judge.run(r, facts)) return r;
            }
            return NONE;
        }

        /** Whether there are BEST plans without a rule; their scores are the sums then. */
        boolean bestLacking(int r) {
            boolean any = false;
            int wanted = judge.hardSet & ~(1 << r);
            int plan = space.lowest(hand, pins);
            for (int n = 0; n < space.plans && plan >= 0; n++) {
                if ((table.setOf(plan) & wanted) == 0) {
                    for (int level = 0; level < LEVELS; level++) trial[level] = table.scoreOf(plan, level);
                    judge.look(space, plan);
                    trial[judge.levels[r]] -= (long) judge.weights[r] * judge.run(r, facts);
                    if (!any || isLess(trial, sums)) System.arraycopy(trial, 0, sums, 0, LEVELS);
                    any = true;
                }
                plan = space.following(plan, pins);
            }
            return any;
        }

        static boolean isLess(long[] a, long[] b) {
            for (int level = 0; level < LEVELS; level++) {
                if (a[level] != b[level]) return a[level] < b[level];
            }
            return false;
        }

        int addFuture(int odd) {
            if (futures >= FUTURES) return FULL;
            odds[futures] = odd;
            toldSets[futures] = 0;
            return futures++;
        }

        int allOdds() {
            int all = 0;
            for (int u = 0; u < futures; u++) all += odds[u];
            return all;
        }

        /** The facts as they are in a future. */
        private int[] factsIn(int u) {
            for (int f = 0; f < counts[FACT]; f++) {
                boolean told = (toldSets[u] >> f & 1) != 0;
                seenFacts[f] = told ? toldValues[u * FACTS + f] : facts[f];
            }
            return seenFacts;
        }

        /** The sums of odds times a plan's scores; whether it is feasible in all futures. */
        boolean sumOverFutures(int plan) {
            Arrays.fill(sums, 0L);
            boolean always = true;
            for (int u = 0; u < futures; u++) {
                int set = judge.weighAll(space, plan, factsIn(u), one, 0);
                if ((set & judge.hardSet) != 0) always = false;
                for (int level = 0; level < LEVELS; level++) sums[level] += odds[u] * one[level];
            }
            return always;
        }

        /** The first allowed plan, feasible in all futures, with the least sums; NONE. */
        int mostRobust() {
            int found = NONE;
            int plan = space.lowest(hand, pins);
            for (int n = 0; n < space.plans && plan >= 0; n++) {
                if (sumOverFutures(plan) && (found < 0 || isLess(sums, trial))) {
                    found = plan;
                    System.arraycopy(sums, 0, trial, 0, LEVELS);
                }
                plan = space.following(plan, pins);
            }
            return found;
        }

        /** How much the plan at hand is above the least feasible one in a future; NO without one. */
        long regretIn(int u, int level) {
            int[] then = factsIn(u);
            long least = NO;
            int plan = space.lowest(hand, pins);
            for (int n = 0; n < space.plans && plan >= 0; n++) {
                int set = judge.weighAll(space, plan, then, one, 0);
                if ((set & judge.hardSet) == 0 && (least == NO || one[level] < least)) least = one[level];
                plan = space.following(plan, pins);
            }
            if (least == NO) return NO;
            judge.weighAll(space, hand, then, one, 0);
            return one[level] - least;
        }
    }

    /** The scores of all plans of a problem, worked out once for its facts, and lists of plans. */
    static final class Table {
        boolean fresh = false;
        int everBroken = 0;
        int[] list = new int[0];
        int listed = 0;
        int pairFirst = 0;
        int pairPlans = 0;
        private long[] scores = new long[0];
        private int[] sets = new int[0];

        /** Scores and sets of broken rules are those by the facts as they are. */
        void renew(Problem p) {
            if (fresh) return;
            int plans = p.space.plans;
            if (plans > sets.length) {
                int room = Math.max(plans, Math.min(PLANS, 2 * sets.length));
                sets = new int[room];
                list = new int[room];
                scores = new long[LEVELS * room];
            }
            everBroken = 0;
            for (int plan = 0; plan < plans; plan++) {
                sets[plan] = p.judge.weighAll(p.space, plan, p.facts, scores, LEVELS * plan);
                everBroken |= sets[plan];
            }
            fresh = true;
        }

        long scoreOf(int plan, int level) {
            int i = LEVELS * plan + level;
            return i >= 0 && i < scores.length ? scores[i] : 0;
        }

        /** The rules that a plan breaks. */
        int setOf(int plan) {
            return plan >= 0 && plan < sets.length ? sets[plan] : 0;
        }

        boolean isBetter(int plan, int other) {
            for (int level = 0; level < LEVELS; level++) {
                long a = scoreOf(plan, level);
                long b = scoreOf(other, level);
                if (a != b) return a < b;
            }
            return false;
        }

        /** All feasible plans, in order, that agree with the plan at hand in the vars of a set. */
        int gather(Problem p, int fixed) {
            listed = 0;
            int plan = p.space.lowest(p.hand, fixed);
            for (int n = 0; n < p.space.plans && plan >= 0; n++) {
                if ((setOf(plan) & p.judge.hardSet) == 0 && listed < list.length) list[listed++] = plan;
                plan = p.space.following(plan, fixed);
            }
            return listed;
        }

        /** All feasible allowed plans, or the BEST; how many. */
        int gatherFor(Problem p, boolean best) {
            gather(p, p.pins);
            return best ? keepBest() : listed;
        }

        int keepBest() {
            if (listed == 0) return 0;
            int best = list[0];
            for (int j = 1; j < listed; j++) {
                if (isBetter(list[j], best)) best = list[j];
            }
            int kept = 0;
            for (int j = 0; j < listed; j++) {
                if (!isBetter(best, list[j])) list[kept++] = list[j];
            }
            listed = kept;
            return kept;
        }

        int keepValue(Space space, int v, int k) {
            int kept = 0;
            for (int j = 0; j < listed; j++) {
                if (space.placeOf(list[j], v) == k) list[kept++] = list[j];
            }
            listed = kept;
            return kept;
        }

        int differentValues(Space space, int v) {
            int met = 0;
            for (int j = 0; j < listed; j++) met |= 1 << space.placeOf(list[j], v);
            return Integer.bitCount(met);
        }

        /** Whether some feasible allowed plan is better than the plan at hand. */
        boolean beatsHand(Problem p) {
            gather(p, p.pins);
            for (int j = 0; j < listed; j++) {
                if (isBetter(list[j], p.hand)) return true;
            }
            return false;
        }

        /** How many pairs THE FRONT has; of pair k its first plan and how many plans have it are kept. */
        int walkFront(Problem p, int k) {
            gather(p, p.pins);
            sortByPair();
            int pairs = 0;
            long lowest = Long.MAX_VALUE;
            int j = 0;
            for (int n = 0; n < PLANS && j < listed; n++) {
                int first = list[j];
                int from = j;
                for (j++; j < listed && isSamePair(list[j], first); j++) continue;
                if (scoreOf(first, 2) >= lowest) continue;
                lowest = scoreOf(first, 2);
                if (pairs == k) {
                    pairFirst = first;
                    pairPlans = j - from;
                }
                pairs++;
            }
            return pairs;
        }

        private boolean isSamePair(int plan, int other) {
            return scoreOf(plan, 1) == scoreOf(other, 1) && scoreOf(plan, 2) == scoreOf(other, 2);
        }

        /** By the scores at level 1, of the same by those at 2, of the same by their order: a heap sort. */
        private void sortByPair() {
            for (int root = listed / 2 - 1; root >= 0; root--) sink(root, listed);
            for (int last = listed - 1; last > 0; last--) {
                int top = list[0];
                list[0] = list[last];
                list[last] = top;
                sink(0, last);
            }
        }

        private void sink(int root, int n) {
            int at = root;
            for (int step = 0; step < n && 2 * at + 1 < n; step++) {
                int child = 2 * at + 1;
                if (child + 1 < n && isBehind(list[child + 1], list[child])) child++;
                if (!isBehind(list[child], list[at])) return;
                int up = list[child];
                list[child] = list[at];
                list[at] = up;
                at = child;
            }
        }

        private boolean isBehind(int plan, int other) {
            for (int level = 1; level < LEVELS; level++) {
                long a = scoreOf(plan, level);
                long b = scoreOf(other, level);
                if (a != b) return a > b;
            }
            return plan > other;
        }
    }

    /** What hard rules leave, and which of them clash. */
    static final class Hard {
        final int[] left = new int[VARS];
        private final int[] supported = new int[RULES * VARS];
        private final int[] places = new int[VARS];
        private final int[] rules = new int[HARD_RULES];
        private int hards = 0;
        /** Of each set of hard rules, whether some allowed plan breaks none but rules of it. */
        private boolean[] suffices = new boolean[0];

        /** What is LEFT; how many values that are. */
        int workOut(Problem p) {
            listRules(p);
            for (int v = 0; v < p.space.vars; v++) {
                boolean pinned = (p.pins >> v & 1) != 0;
                left[v] = pinned ? 1 << p.space.placeOf(p.hand, v) : (1 << p.space.sizes[v]) - 1;
            }
            boolean more = true;
            for (int n = 0; n <= VARS * VALUES && more; n++) more = dropUnsupported(p);
            int all = 0;
            for (int v = 0; v < p.space.vars; v++) all += Integer.bitCount(left[v]);
            return all;
        }

        private void listRules(Problem p) {
            hards = 0;
            for (int r = 0; r < RULES; r++) {
                if ((p.judge.hardSet >> r & 1) != 0 && hards < HARD_RULES) rules[hards++] = r;
            }
        }

        /** Whether a value went. */
        private boolean dropUnsupported(Problem p) {
            Arrays.fill(supported, 0);
            int plan = p.space.lowest(p.hand, p.pins);
            for (int n = 0; n < p.space.plans && plan >= 0; n++) {
                if (isOfLeft(p.space, plan)) support(p.space.vars, p.table.setOf(plan));
                plan = p.space.following(plan, p.pins);
            }
            boolean went = false;
            for (int v = 0; v < p.space.vars; v++) {
                int kept = left[v];
                for (int h = 0; h < hards; h++) kept &= supported[rules[h] * VARS + v];
                if (kept != left[v]) went = true;
                left[v] = kept;
            }
            return went;
        }

        /** Whether a plan has none but values that are left; their places are kept. */
        private boolean isOfLeft(Space space, int plan) {
            for (int v = 0; v < space.vars; v++) {
                places[v] = space.placeOf(plan, v);
                if ((left[v] >> places[v] & 1) == 0) return false;
            }
            return true;
        }

        private void support(int vars, int brokenSet) {
            for (int h = 0; h < hards; h++) {
                int r = rules[h];
                if ((brokenSet >> r & 1) != 0) continue;
                for (int v = 0; v < vars; v++) supported[r * VARS + v] |= 1 << places[v];
            }
        }

        /** The first hard rule that all allowed plans break; NONE. */
        int alwaysBroken(Problem p) {
            int always = p.judge.hardSet;
            int plan = p.space.lowest(p.hand, p.pins);
            for (int n = 0; n < p.space.plans && plan >= 0; n++) {
                always &= p.table.setOf(plan);
                plan = p.space.following(plan, p.pins);
            }
            return always == 0 ? NONE : Integer.numberOfTrailingZeros(always);
        }

        /** All hard rules less those, one by one in order, that may go while the others clash. */
        int narrowed(Problem p) {
            int all = lookAtSets(p);
            if (!isClash(all, all)) return 0;
            int set = all;
            for (int h = 0; h < hards; h++) {
                int less = set & ~(1 << h);
                if (isClash(less, all)) set = less;
            }
            return byNumber(set);
        }

        int smallest(Problem p) {
            int all = lookAtSets(p);
            int found = 0;
            int least = HARD_RULES + 1;
            for (int set = 1; set <= all; set++) {
                int n = Integer.bitCount(set);
                if (n >= least || !isClash(set, all)) continue;
                least = n;
                found = set;
            }
            return byNumber(found);
        }

        int cheapest(Problem p) {
            int all = lookAtSets(p);
            int found = 0;
            int least = Integer.MAX_VALUE;
            for (int set = 0; set <= all; set++) {
                int weight = weightOf(p, set);
                if (weight >= least || isClash(all & ~set, all)) continue;
                least = weight;
                found = set;
            }
            return byNumber(found);
        }

        /** Which sets suffice is worked out; the set of all hard rules, numbered among themselves. */
        private int lookAtSets(Problem p) {
            listRules(p);
            if (suffices.length == 0) suffices = new boolean[1 << HARD_RULES];
            int all = (1 << hards) - 1;
            for (int set = 0; set <= all; set++) suffices[set] = false;
            int plan = p.space.lowest(p.hand, p.pins);
            for (int n = 0; n < p.space.plans && plan >= 0; n++) {
                suffices[among(p.table.setOf(plan))] = true;
                plan = p.space.following(plan, p.pins);
            }
            for (int set = 1; set <= all; set++) {
                for (int h = 0; h < hards && !suffices[set]; h++) {
                    if ((set >> h & 1) != 0) suffices[set] = suffices[set & ~(1 << h)];
                }
            }
            return all;
        }

        private boolean isClash(int set, int all) {
            int others = all & ~set;
            return others < 0 || others >= suffices.length || !suffices[others];
        }

        /** The hard rules of a set, numbered among themselves. */
        private int among(int set) {
            int told = 0;
            for (int h = 0; h < hards; h++) told |= (set >> rules[h] & 1) << h;
            return told;
        }

        /** A set of hard rules by their numbers in the text. */
        private int byNumber(int set) {
            int bits = 0;
            for (int h = 0; h < hards; h++) bits |= (set >> h & 1) << rules[h];
            return bits;
        }

        private int weightOf(Problem p, int set) {
            int all = 0;
            for (int h = 0; h < hards; h++) all += (set >> h & 1) * p.judge.weights[rules[h]];
            return all;
        }
    }

    /** Searches by moves from seeds, and what the latest one told. */
    static final class Search {
        private static final int LATE = 20;
        private static final int TOP_BAR = 100;
        private static final int TOP_SLACK = 10000;

        boolean ran = false;
        int trace = 1;
        int seed = 0;
        int keptStep = NONE;
        private final int[] free = new int[VARS];
        private int frees = 0;
        private final int[] late = new int[LATE];
        private final int[] barred = new int[VARS];
        private int current = 0;
        private int next = 0;
        private int kept = 0;
        private int move = 0;
        private int oneVar = 0;
        private int otherVar = 0;

        static boolean mayBe(int how, int length) {
            switch (how) {
                case 0: return true;
                case 1: return length >= 1 && length <= LATE;
                case 2: return length >= 1 && length <= TOP_BAR;
                case 3: return length >= 1 && length <= TOP_SLACK;
                default: return false;
            }
        }

        /** In how many steps the new plan was taken; the kept one is at hand then. */
        int seek(Problem p, int how, int length, int z, int steps) {
            begin(p, z);
            if (frees == 0) return 0;
            p.table.renew(p);
            int taken = 0;
            for (int s = 0; s < steps; s++) {
                if (!propose(p.space)) continue;
                if (isTaken(p.table, how, length, s, steps)) {
                    taken++;
                    settle(p.table, s, length);
                }
                if (how == 1 && length > 0 && length <= LATE) late[s % length] = current;
            }
            p.moveTo(kept);
            return taken;
        }

        private void begin(Problem p, int z) {
            ran = true;
            trace = 1;
            seed = z;
            keptStep = NONE;
            current = p.hand;
            kept = p.hand;
            Arrays.fill(late, p.hand);
            Arrays.fill(barred, NONE);
            frees = 0;
            for (int v = 0; v < p.space.vars; v++) {
                if ((p.pins >> v & 1) == 0 && p.space.sizes[v] >= 2) free[frees++] = v;
            }
        }

        private int draw(int n) {
            seed = seed * 1664525 + 1013904223;
            return n < 1 ? 0 : (seed >>> 8) % n;
        }

        /** Draws a move; whether there is a new plan. */
        private boolean propose(Space space) {
            move = draw(4);
            oneVar = free[draw(frees)];
            if (move < 3) {
                otherVar = oneVar;
                int k = draw(space.sizes[oneVar] - 1);
                next = space.moved(current, oneVar, k < space.placeOf(current, oneVar) ? k : k + 1);
                return true;
            }
            otherVar = free[draw(frees)];
            if (oneVar == otherVar) return false;
            int k = space.placeOfValue(oneVar, space.valueOf(current, otherVar));
            int j = space.placeOfValue(otherVar, space.valueOf(current, oneVar));
            if (k < 0 || j < 0) return false;
            next = space.moved(space.moved(current, oneVar, k), otherVar, j);
            return true;
        }

        private boolean isTaken(Table table, int how, int length, int s, int steps) {
            if (how == 3) {
                long slack = steps < 1 ? 0 : length - length * s / steps;
                return worth(table, next) - worth(table, current) <= slack;
            }
            boolean bar = how == 2 && (s <= barred[oneVar] || s <= barred[otherVar]);
            if (bar && !table.isBetter(next, kept)) return false;
            if (!table.isBetter(current, next)) return true;
            if (how == 1) return length > 0 && length <= LATE && !table.isBetter(late[s % length], next);
            return how == 2 && draw(8) == 0;
        }

        private void settle(Table table, int s, int length) {
            current = next;
            trace = 31 * trace + move;
            barred[oneVar] = s + length;
            barred[otherVar] = s + length;
            if (!table.isBetter(current, kept)) return;
            kept = current;
            keptStep = s;
        }

        private static long worth(Table table, int plan) {
            return 10000 * table.scoreOf(plan, 0) + 100 * table.scoreOf(plan, 1) + table.scoreOf(plan, 2);
        }
    }

    /** Proofs that no feasible allowed plan is better than the plan at hand. */
    static final class Proof {
        private final Tokens tokens;
        private final int[] least = new int[RULES + AIMS];
        private final long[] bound = new long[LEVELS];

        Proof(Tokens tokens) {
            this.tokens = tokens;
        }

        boolean isRight(Problem p, Bytes text) {
            tokens.scan(text);
            if (!tree(p, p.pins, p.hand, 0)) return false;
            return tokens.kind == Tokens.END || tokens.refuse();
        }

        /** One TREE; given are the values that a plan has for the vars of a set. */
        private boolean tree(Problem p, int given, int plan, int depth) {
            if (tokens.kind == Tokens.NAME) return branches(p, given, plan, depth);
            if (tokens.is('!')) return ruledOut(p, given, plan);
            if (!tokens.is('.') && !tokens.is('<')) return tokens.refuse();
            boolean right = tokens.is('.') ? isNoGain(p, given, plan) : isBounded(p, given, plan);
            if (!right) return tokens.fail(8, tokens.place);
            tokens.step();
            return true;
        }

        private boolean branches(Problem p, int given, int plan, int depth) {
            int id = p.lookUp(tokens.key);
            int v = id % Problem.MOST;
            if (id < 0 || id / Problem.MOST != Problem.VAR) return tokens.fail(4, tokens.place);
            if ((given >> v & 1) != 0 || depth >= VARS) return tokens.fail(4, tokens.place);
            tokens.step();
            for (int k = 0; k < p.space.sizes[v]; k++) {
                if (!tokens.accept(k == 0 ? '(' : ',')) return false;
                if (!tree(p, given | 1 << v, p.space.moved(plan, v, k), depth + 1)) return false;
            }
            return tokens.accept(')');
        }

        private boolean ruledOut(Problem p, int given, int plan) {
            int sign = tokens.place;
            tokens.step();
            if (tokens.kind != Tokens.NAME) return tokens.refuse();
            int id = p.lookUp(tokens.key);
            int r = id % Problem.MOST;
            if (id < 0 || id / Problem.MOST != Problem.RULE) return tokens.fail(4, tokens.place);
            if ((p.judge.hardSet >> r & 1) == 0) return tokens.fail(4, tokens.place);
            int at = p.space.lowest(plan, given);
            for (int n = 0; n < p.space.plans && at >= 0; n++) {
                if ((p.table.setOf(at) >> r & 1) == 0) return tokens.fail(8, sign);
                at = p.space.following(at, given);
            }
            tokens.step();
            return true;
        }

        private static boolean isNoGain(Problem p, int given, int plan) {
            if (given != (1 << p.space.vars) - 1) return false;
            return (p.table.setOf(plan) & p.judge.hardSet) != 0 || !p.table.isBetter(plan, p.hand);
        }

        /** Whether the plan at hand is not worse than THE BOUND. */
        private boolean isBounded(Problem p, int given, int plan) {
            Arrays.fill(least, Integer.MAX_VALUE);
            int at = p.space.lowest(plan, given);
            for (int n = 0; n < p.space.plans && at >= 0; n++) {
                p.judge.look(p.space, at);
                for (int i = 0; i < least.length; i++) {
                    if (p.judge.isPart(i)) least[i] = Math.min(least[i], p.judge.run(i, p.facts));
                }
                at = p.space.following(at, given);
            }
            Arrays.fill(bound, 0L);
            for (int i = 0; i < least.length; i++) {
                if (p.judge.isPart(i)) bound[p.judge.levels[i]] += (long) least[i] * (i < RULES ? p.judge.weights[i] : 1);
            }
            for (int level = 0; level < LEVELS; level++) {
                long hand = p.table.scoreOf(p.hand, level);
                if (hand != bound[level]) return hand < bound[level];
            }
            return true;
        }

        /** Whether the proof of all plans one by one has room on the tape. */
        boolean fits(Problem p) {
            int wide = 1;
            for (int v = p.space.vars - 1; v >= 0; v--) {
                if ((p.pins >> v & 1) != 0) continue;
                int size = p.space.sizes[v];
                wide = Problem.letters(p.names[Problem.VAR * Problem.MOST + v]) + 2 + size * wide + size - 1;
                if (wide > TAPE_ROOM) return false;
            }
            return true;
        }

        /** The proof of all plans one by one becomes the tape. */
        void write(Problem p, Bytes tape) {
            tape.keep(0);
            writeTree(p, tape, 0);
        }

        /** The TREE over all vars from one on that are not pinned. */
        private static void writeTree(Problem p, Bytes tape, int from) {
            int v = from;
            for (; v < p.space.vars && (p.pins >> v & 1) != 0; v++) continue;
            if (v >= p.space.vars || v >= VARS) {
                tape.add('.');
                return;
            }
            long name = p.names[Problem.VAR * Problem.MOST + v];
            tape.addNumber(name, Problem.letters(name));
            for (int k = 0; k < p.space.sizes[v]; k++) {
                tape.add(k == 0 ? '(' : ',');
                writeTree(p, tape, v + 1);
            }
            tape.add(')');
        }
    }

    /** Rows of problems as bytes, one behind the other. */
    static final class Store {
        static final int HEAD = 3;
        static final int EXPORT_HEAD = 2;
        static final int SUM = 8;
        private static final int ROWS = 100;
        private static final int ROOM = TAPE_ROOM - EXPORT_HEAD - SUM;
        private static final int MARK = 211;

        final Bytes bytes = new Bytes();
        int count = 0;
        private final int[] ends = new int[ROWS];
        private final int[] broughtEnds = new int[ROWS];
        /** The first row that the latest writing call made; NONE when a crash can't take any. */
        private int written = NONE;

        /** Where a row begins; NONE without it. */
        int start(int k) {
            if (k < 0 || k >= count || k >= ROWS) return NONE;
            return k == 0 ? 0 : ends[k - 1];
        }

        boolean hasRoom(int rows, int wide) {
            return count + rows <= ROWS && bytes.length + wide <= ROOM;
        }

        int add(Problem p) {
            int from = bytes.length;
            int wide = HEAD + p.text.length + stateLength(p) + SUM;
            if (!hasRoom(1, wide)) return FULL;
            bytes.add(MARK);
            bytes.addNumber(p.text.length, 2);
            bytes.addAll(p.text, 0, p.text.length);
            for (int f = 0; f < p.counts[Problem.FACT]; f++) bytes.addNumber(p.facts[f], 4);
            for (int v = 0; v < p.space.vars; v++) {
                bytes.add(p.space.valueOf(p.hand, v));
                bytes.addNumber(p.costs[v], 2);
            }
            bytes.addNumber(p.pins, 2);
            bytes.addNumber(bytes.sum(from, bytes.length), SUM);
            written = count;
            ends[count] = bytes.length;
            return count++;
        }

        /** How many bytes stand between the text and the sum of a row. */
        private static int stateLength(Problem p) {
            return 4 * p.counts[Problem.FACT] + 3 * p.space.vars + 2;
        }

        /** How long the text of the row at a place is; NONE when none such begins there. */
        int textLength(Bytes from, int at) {
            if (from.at(at) != MARK || at + HEAD > from.length) return NONE;
            int wide = (int) from.number(at + 1, 2);
            return at + HEAD + wide > from.length ? NONE : wide;
        }

        /** The place behind a row whose text was read; NONE when it is not right. */
        int rowEnd(Bytes from, int at, Problem p) {
            int state = at + HEAD + p.text.length;
            int sum = state + stateLength(p);
            if (sum + SUM > from.length - SUM) return NONE;
            if (from.sum(at, sum) != from.number(sum, SUM) || !restore(from, state, p)) return NONE;
            return sum + SUM;
        }

        /** Facts, plan at hand, costs and pins are those of a row; false when one may not be. */
        boolean restore(Bytes from, int at, Problem p) {
            int i = at;
            for (int f = 0; f < p.counts[Problem.FACT]; f++) {
                p.facts[f] = (int) from.number(i, 4);
                if (p.facts[f] < -TOP_FACT || p.facts[f] > TOP_FACT) return false;
                i += 4;
            }
            for (int v = 0; v < p.space.vars; v++) {
                int k = p.space.placeOfValue(v, (byte) from.at(i));
                int cost = (int) from.number(i + 1, 2);
                if (k < 0 || cost > TOP_COST) return false;
                p.hand = p.space.moved(p.hand, v, k);
                p.costs[v] = cost;
                i += 3;
            }
            p.pins = (int) from.number(i, 2);
            return p.pins >> p.space.vars == 0;
        }

        /** How many rows are there behind a crash of which only so many written bytes are left. */
        int lose(int n) {
            if (written < 0) return count;
            int from = written == 0 ? 0 : ends[written - 1];
            for (; count > written && ends[count - 1] - from > n; count--) continue;
            bytes.keep(count == 0 ? 0 : ends[count - 1]);
            written = NONE;
            return count;
        }

        void export(Bytes tape) {
            tape.keep(0);
            tape.addNumber(count, EXPORT_HEAD);
            tape.addAll(bytes, 0, bytes.length);
            tape.addNumber(tape.sum(0, tape.length), SUM);
        }

        /** How many rows an export says it has; NONE when it is too short or its sum is not right. */
        int announced(Bytes tape) {
            int body = tape.length - SUM;
            if (body < EXPORT_HEAD || tape.sum(0, body) != tape.number(body, SUM)) return NONE;
            return (int) tape.number(0, EXPORT_HEAD);
        }

        /** Of rows that are brought, the end of one; more than there may be are refused later. */
        void noteEnd(int i, int end) {
            if (i >= 0 && i < ROWS) broughtEnds[i] = end;
        }

        /** The rows of an export that has been looked at come behind the others. */
        void append(Bytes tape, int rows, int wide) {
            if (rows < 1 || !hasRoom(rows, wide)) return;
            written = count;
            for (int i = 0; i < rows; i++) ends[count + i] = bytes.length + broughtEnds[i];
            bytes.addAll(tape, EXPORT_HEAD, wide);
            count += rows;
        }
    }
}
