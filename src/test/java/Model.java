import java.util.ArrayDeque;
import java.util.ArrayList;
import java.util.Arrays;
import java.util.Comparator;
import java.util.Deque;
import java.util.HashMap;
import java.util.HashSet;
import java.util.List;
import java.util.Map;
import java.util.Set;

/**
 * The document once more, told another way than the class tells it: objects, recursion, exceptions,
 * Java's own float and double for what is ROUNDED, real STEPS on blank CELLS for the FORECAST.
 * ModelTest holds both against each other.
 */
final class Model {
    static final int BAD = -1, STATE = -2, FULL = -3, OUT = -4, GONE = -5, BARE = -6, UNLIKE = -7,
            PAST = -8, VOID = -9, WIDE = -10, SPENT = -11, NONE = -20, OPEN = -100;
    private static final String[] WIDER = {"0", "134567", "24567", "34567", "4567", "567", "67", "7"};

    record Thing(int kind, long number) {
        boolean isNumber() {
            return kind >= 0 && kind <= 7;
        }
    }

    static final Thing NOTHING = new Thing(NONE, 0);

    static final class Refused extends Exception {
        final int code;

        Refused(int code) {
            super(null, null, false, false);
            this.code = code;
        }
    }

    static final class Left extends Exception {
        Left() {
            super(null, null, false, false);
        }
    }

    static boolean widens(int from, int to) {
        return from <= 7 && to <= 7 && WIDER[from].indexOf('0' + to) >= 0;
    }

    static Thing as(int kind, long number) {
        return new Thing(kind, kind == 6 ? (long) (float) number : kind == 7 ? (long) (double) number : number);
    }

    static Thing handOver(Thing thing, int by, int to) throws Refused {
        if (by <= 7) {
            if (to <= 7 && widens(by, to)) {
                return as(to, thing.number());
            }
            throw new Refused(UNLIKE);
        }
        switch (to) {
            case 8:
                return thing;
            case 9:
                if (thing.equals(NOTHING) || thing.kind() == 9) {
                    return thing;
                }
                throw new Refused(UNLIKE);
            case 10:
                if (thing.equals(NOTHING) || thing.kind() == 4) {
                    return thing;
                }
                throw new Refused(UNLIKE);
            default:
                if (thing.equals(NOTHING)) {
                    throw new Refused(VOID);
                }
                if (thing.isNumber() && widens(thing.kind(), to)) {
                    return as(to, thing.number());
                }
                throw new Refused(UNLIKE);
        }
    }

    static Thing takeFrom(int giver, Thing thing, int by) throws Refused {
        if (by == 8) {
            return thing;
        }
        if (giver <= 7 && widens(giver, by)) {
            return as(by, thing.number());
        }
        throw new Refused(UNLIKE);
    }

    interface Row {
        int kind();

        /** OUT, going down. */
        void probe(int place) throws Refused;

        /** What one above it, that takes BY a KIND, gets. */
        Thing give(int place, int by) throws Refused;

        void put(int place, Thing thing, int by) throws Refused;

        /** BANK and place as one text; null: no CELL. */
        String cell(int place);

        Bank bank();

        int depth();
    }

    static final class Bank implements Row {
        final int id;
        final int kind;
        Thing[] cells;

        Bank(int id, int kind, int size) {
            this.id = id;
            this.kind = kind;
            cells = new Thing[kind > 10 ? 0 : size];
            Arrays.fill(cells, kind <= 7 ? new Thing(kind, 0) : NOTHING);
        }

        public int kind() {
            return kind;
        }

        public void probe(int place) {
        }

        private void there() throws Refused {
            if (kind == 11) {
                throw new Refused(GONE);
            }
            if (kind == 12) {
                throw new Refused(BARE);
            }
        }

        private boolean has(int place) {
            return place >= 0 && place < cells.length;
        }

        public Thing give(int place, int by) throws Refused {
            there();
            Thing thing = has(place) ? cells[place] : new Thing(kind <= 7 ? kind : 9, 0);
            Thing got = takeFrom(kind, thing, by);
            if (!has(place)) {
                throw new Refused(PAST);
            }
            return got;
        }

        public void put(int place, Thing thing, int by) throws Refused {
            there();
            Thing got = handOver(thing, by, kind);
            if (!has(place)) {
                throw new Refused(PAST);
            }
            cells[place] = got;
        }

        public String cell(int place) {
            return has(place) ? id + ":" + place : null;
        }

        public Bank bank() {
            return this;
        }

        public int depth() {
            return 0;
        }
    }

    static final class View implements Row {
        final Row base;
        final int from, step, count, kind;

        View(Row base, int from, int step, int count, int kind) {
            this.base = base;
            this.from = from;
            this.step = step;
            this.count = count;
            this.kind = kind;
        }

        public int kind() {
            return kind;
        }

        private int below(int place) {
            return from + step * place;
        }

        public void probe(int place) throws Refused {
            if (place < 0 || place >= count) {
                throw new Refused(OUT);
            }
            base.probe(below(place));
        }

        private Thing own(int place) throws Refused {
            return base.give(below(place), kind);
        }

        public Thing give(int place, int by) throws Refused {
            return takeFrom(kind, own(place), by);
        }

        Thing read(int place) throws Refused {
            probe(place);
            return own(place);
        }

        public void put(int place, Thing thing, int by) throws Refused {
            base.put(below(place), handOver(thing, by, kind), kind);
        }

        void write(int place, Thing thing, int by) throws Refused {
            probe(place);
            put(place, thing, by);
        }

        public String cell(int place) {
            return place < 0 || place >= count ? null : base.cell(below(place));
        }

        public Bank bank() {
            return base.bank();
        }

        public int depth() {
            return base.depth() + 1;
        }
    }

    final List<Bank> banks = new ArrayList<>();
    final List<View> views = new ArrayList<>();
    final List<int[]> lines = new ArrayList<>();
    final Deque<List<Thing[]>> past = new ArrayDeque<>();
    final List<List<Thing[]>> images = new ArrayList<>(Arrays.asList(null, null));
    final List<int[]> seen = new ArrayList<>();
    int[] mode = new int[7];
    int[] came = new int[7];
    Thing told = NOTHING;

    private boolean in(long x, long least, long most) {
        return x >= least && x <= most;
    }

    private boolean isView(int v) {
        return in(v, 0, views.size() - 1);
    }

    int bank(int kind, int size) {
        if (!in(kind, 0, 12) || !in(size, 1, 12)) {
            return BAD;
        }
        if (banks.size() == 6) {
            return FULL;
        }
        banks.add(new Bank(banks.size(), kind, size));
        return banks.size() - 1;
    }

    int view(int of, int from, int step, int count, int kind) {
        boolean ofBank = in(of, 0, 5) && of < banks.size();
        boolean ofView = in(of, 10, 17) && isView(of - 10);
        if (!(ofBank || ofView) || !in(from, -20, 20) || !in(step, -3, 3) || !in(count, 1, 12) || !in(kind, 0, 8)) {
            return BAD;
        }
        Row base = ofBank ? banks.get(of) : views.get(of - 10);
        if (views.size() == 8 || base.depth() == 4) {
            return FULL;
        }
        views.add(new View(base, from, step, count, kind));
        return views.size() - 1;
    }

    int clear() {
        int had = banks.size();
        banks.clear();
        views.clear();
        lines.clear();
        past.clear();
        images.set(0, null);
        images.set(1, null);
        seen.clear();
        mode = new int[7];
        came = new int[7];
        told = NOTHING;
        return had;
    }

    int reads(int view, int place) {
        if (!isView(view) || !in(place, 0, 11)) {
            return BAD;
        }
        try {
            told = views.get(view).read(place);
            return 0;
        } catch (Refused r) {
            return r.code;
        }
    }

    int looks(int bank, int place) {
        if (!in(bank, 0, banks.size() - 1) || !in(place, 0, 11)) {
            return BAD;
        }
        try {
            told = banks.get(bank).give(place, 8);
            return 0;
        } catch (Refused r) {
            return r.code;
        }
    }

    long number() {
        return told.number();
    }

    int kind() {
        return told.kind();
    }

    private static final long[][] RANGE = {{0, 1}, {Byte.MIN_VALUE, Byte.MAX_VALUE}, {0, Character.MAX_VALUE},
        {Short.MIN_VALUE, Short.MAX_VALUE}, {Integer.MIN_VALUE, Integer.MAX_VALUE}, {-(1L << 60), 1L << 60},
        {-(1L << 60), 1L << 60}, {-(1L << 60), 1L << 60}};

    int writes(int view, int place, int kind, int how, long number) {
        if (!isView(view) || !in(place, 0, 11) || !in(how, 0, 1)) {
            return BAD;
        }
        Thing thing;
        if (in(kind, 0, 7)) {
            if (!in(number, RANGE[kind][0], RANGE[kind][1])) {
                return BAD;
            }
            thing = as(kind, number);
        } else if (kind == 9 && how == 1 && in(number, 0, 9)) {
            thing = new Thing(9, number);
        } else if (kind == 10 && how == 1) {
            thing = NOTHING;
        } else {
            return BAD;
        }
        List<Thing[]> before = snapshot();
        try {
            views.get(view).write(place, thing, how == 1 ? 8 : kind);
            remember(before);
            return 0;
        } catch (Refused r) {
            return r.code;
        }
    }

    private List<Thing[]> snapshot() {
        List<Thing[]> all = new ArrayList<>();
        for (Bank bank : banks) {
            all.add(bank.cells.clone());
        }
        return all;
    }

    private void restore(List<Thing[]> all) {
        for (int i = 0; i < all.size(); i++) {
            banks.get(i).cells = all.get(i).clone();
        }
    }

    private void remember(List<Thing[]> before) {
        past.addLast(before);
        if (past.size() > 10) {
            past.removeFirst();
        }
    }

    private Thing term(Thing thing) throws Refused {
        if (thing.equals(NOTHING)) {
            throw new Refused(VOID);
        }
        if (thing.kind() == 9 || thing.kind() == 0) {
            throw new Refused(UNLIKE);
        }
        return thing;
    }

    private boolean forecasting = false;

    private Thing readOr(View view, int place) throws Refused {
        Thing thing = view.read(place);
        if (forecasting && in(view.bank().kind, 8, 10)) {
            throw new Refused(OPEN);
        }
        return thing;
    }

    private void step(int step, View a, int p, View b, int q) throws Refused {
        List<Thing[]> before = snapshot();
        try {
            Thing x = readOr(a, p);
            if (step == 0) {
                b.write(q, x, a.kind);
                return;
            }
            Thing y = readOr(b, q);
            if (step == 4) {
                b.write(q, x, a.kind);
                a.write(p, y, b.kind);
                return;
            }
            term(x);
            term(y);
            int k = 4;
            k = Math.max(k, x.kind());
            k = Math.max(k, y.kind());
            long m = as(k, x.number()).number();
            long n = as(k, y.number()).number();
            long sum = step == 1 ? m + n : step == 2 ? n - m : m > n ? m : n;
            Thing result = k == 4 ? new Thing(4, (int) sum) : as(k, sum);
            if (k > 4 && !in(result.number(), -(1L << 60), 1L << 60)) {
                throw new Refused(WIDE);
            }
            b.write(q, result, b.kind == 8 ? 8 : k);
        } catch (Refused r) {
            restore(before);
            throw r;
        }
    }

    int does(int step, int a, int p, int b, int q) {
        if (!in(step, 0, 4) || !isView(a) || !isView(b) || !in(p, 0, 11) || !in(q, 0, 11)) {
            return BAD;
        }
        List<Thing[]> before = snapshot();
        try {
            step(step, views.get(a), p, views.get(b), q);
            remember(before);
            return 0;
        } catch (Refused r) {
            return r.code;
        }
    }

    int copies(int a, int b, int order) {
        if (!isView(a) || !isView(b) || !in(order, 0, 2)) {
            return BAD;
        }
        View from = views.get(a);
        View to = views.get(b);
        int n = Math.min(from.count, to.count);
        remember(snapshot());
        Map<Integer, Thing> things = new HashMap<>();
        int skipped = 0;
        for (int i = 0; i < n && order == 2; i++) {
            try {
                things.put(i, from.read(i));
            } catch (Refused r) {
                skipped |= 1 << i;
            }
        }
        for (int i = 0; i < n; i++) {
            int k = order == 1 ? n - 1 - i : i;
            try {
                if (order < 2) {
                    step(0, from, k, to, k);
                } else if (things.containsKey(k)) {
                    to.write(k, things.get(k), from.kind);
                }
            } catch (Refused r) {
                skipped |= 1 << k;
            }
        }
        return skipped;
    }

    int undo() {
        if (past.isEmpty()) {
            return STATE;
        }
        restore(past.removeLast());
        return past.size();
    }

    private int open() {
        int open = 0;
        for (int[] l : lines) {
            open += l[0] == 5 ? 1 : l[0] == 6 ? -1 : 0;
        }
        return open;
    }

    int plans(int line, int a, int p, int b, int q) {
        if (line == 5 ? !in(a, 0, 9) : line != 6
                && (!in(line, 0, 4) || !isView(a) || !isView(b) || !in(p, 0, 13) || !in(q, 0, 13))) {
            return BAD;
        }
        if (line == 6 && open() == 0) {
            return STATE;
        }
        if (lines.size() == 16 || line == 5 && open() == 3) {
            return FULL;
        }
        lines.add(line == 5 ? new int[] {5, a, 0, 0, 0} : line == 6 ? new int[] {6, 0, 0, 0, 0}
                : new int[] {line, a, p, b, q});
        return lines.size();
    }

    int drops() {
        if (lines.isEmpty()) {
            return STATE;
        }
        lines.remove(lines.size() - 1);
        return lines.size();
    }

    int modes(int refusal, int newMode) {
        if (!in(refusal, 0, 6) || !in(newMode, 0, 2)) {
            return BAD;
        }
        int was = mode[refusal];
        mode[refusal] = newMode;
        return was;
    }

    /** Recursive: turns hold a copy of the turn numbers outside of them. */
    private final class Runner {
        int steps = 0;
        final int[] forecast = new int[7];

        private int endOf(int start) {
            int deep = 0;
            int at = start;
            do {
                int what = lines.get(at)[0];
                deep += what == 5 ? 1 : what == 6 ? -1 : 0;
                at++;
            } while (deep > 0);
            return at - 1;
        }

        private int place(int told, List<Integer> turns) {
            if (told < 12) {
                return told;
            }
            int at = turns.size() - 1 - (told - 12);
            return at < 0 ? 0 : turns.get(at);
        }

        void block(int from, int to, List<Integer> turns) throws Refused, Left {
            for (int i = from; i < to; i++) {
                int[] l = lines.get(i);
                if (l[0] == 5) {
                    int end = endOf(i);
                    try {
                        for (int turn = 0; turn < l[1]; turn++) {
                            List<Integer> inside = new ArrayList<>(turns);
                            inside.add(turn);
                            block(i + 1, end, inside);
                        }
                    } catch (Left left) {
                        // on behind the END
                    }
                    i = end;
                } else {
                    oneStep(l, turns);
                }
            }
        }

        private void oneStep(int[] l, List<Integer> turns) throws Refused, Left {
            if (steps == 60) {
                throw new Refused(SPENT);
            }
            steps++;
            try {
                step(l[0], views.get(l[1]), place(l[2], turns), views.get(l[3]), place(l[4], turns));
                forecast[6]++;
            } catch (Refused r) {
                if (forecasting) {
                    forecast[r.code == OPEN ? 5 : -4 - r.code]++;
                    return;
                }
                came[-4 - r.code]++;
                if (mode[-4 - r.code] == 0) {
                    throw r;
                }
                if (mode[-4 - r.code] == 2) {
                    throw new Left();
                }
            }
        }
    }

    int runs() {
        if (open() > 0) {
            return STATE;
        }
        came = new int[7];
        List<Thing[]> before = snapshot();
        Runner runner = new Runner();
        try {
            runner.block(0, lines.size(), new ArrayList<>());
        } catch (Left left) {
            // outside of all the RUN ends
        } catch (Refused r) {
            restore(before);
            return r.code;
        }
        remember(before);
        return runner.steps;
    }

    int line(int line, int what) {
        return in(line, 0, lines.size() - 1) && in(what, 0, 4) ? lines.get(line)[what] : BAD;
    }

    int met(int refusal) {
        return in(refusal, 0, 6) ? came[refusal] : BAD;
    }

    /** Each STEP is done with BANKS of KIND 0 to 7 all blank, so that nothing is WIDE. */
    int forecast(int what) {
        if (!in(what, 0, 6)) {
            return BAD;
        }
        if (open() > 0) {
            return STATE;
        }
        List<Thing[]> before = snapshot();
        for (Bank bank : banks) {
            if (bank.kind <= 7) {
                Arrays.fill(bank.cells, new Thing(bank.kind, 0));
            }
        }
        forecasting = true;
        Runner runner = new Runner();
        try {
            runner.block(0, lines.size(), new ArrayList<>());
        } catch (Refused | Left end) {
            // SPENT: there it ends
        }
        forecasting = false;
        restore(before);
        return runner.forecast[what];
    }

    private boolean turnsAnywhere() {
        for (int[] l : lines) {
            if (l[0] > 4 || l[2] > 11 || l[4] > 11) {
                return true;
            }
        }
        return false;
    }

    private Set<String> cellsOf(int[] l, boolean written) {
        Set<String> set = new HashSet<>();
        String a = views.get(l[1]).cell(l[2]);
        String b = views.get(l[3]).cell(l[4]);
        if (a != null && (!written || l[0] == 4)) {
            set.add(a);
        }
        if (b != null && (written || l[0] != 0)) {
            set.add(b);
        }
        return set;
    }

    private boolean meets(Set<String> x, Set<String> y) {
        for (String s : x) {
            if (y.contains(s)) {
                return true;
            }
        }
        return false;
    }

    private boolean clash(int[] k, int[] l) {
        return meets(cellsOf(k, true), cellsOf(l, false)) || meets(cellsOf(k, true), cellsOf(l, true))
                || meets(cellsOf(l, true), cellsOf(k, false));
    }

    private int waveOf(int line) {
        int wave = 0;
        for (int i = 0; i < line; i++) {
            if (clash(lines.get(i), lines.get(line))) {
                wave = Math.max(wave, 1 + waveOf(i));
            }
        }
        return wave;
    }

    int wave(int line) {
        if (!in(line, 0, lines.size() - 1)) {
            return BAD;
        }
        return turnsAnywhere() ? STATE : waveOf(line);
    }

    int reorders() {
        if (turnsAnywhere()) {
            return STATE;
        }
        List<Integer> order = new ArrayList<>();
        List<Integer> wave = new ArrayList<>();
        for (int i = 0; i < lines.size(); i++) {
            order.add(i);
            wave.add(waveOf(i));
        }
        order.sort(Comparator.comparing(wave::get));
        List<int[]> old = new ArrayList<>(lines);
        int moved = 0;
        for (int i = 0; i < old.size(); i++) {
            lines.set(i, old.get(order.get(i)));
            moved += order.get(i) != i ? 1 : 0;
        }
        return moved;
    }

    int joins(int a, int b) {
        if (!isView(a) || !isView(b)) {
            return BAD;
        }
        List<Integer> both = new ArrayList<>();
        for (int k = 0; k <= 7; k++) {
            if (widens(views.get(a).kind, k) && widens(views.get(b).kind, k)) {
                both.add(k);
            }
        }
        for (int k : both) {
            boolean toAll = true;
            for (int other : both) {
                toAll &= widens(k, other);
            }
            if (toAll) {
                return k;
            }
        }
        return NONE;
    }

    /** The same KINDS one upon the other, with places that all are there. */
    private View ample(View view, int topKind) {
        Row base = view.base instanceof View lower ? ample(lower, lower.kind) : new Bank(0, view.bank().kind, 12);
        return new View(base, 0, 1, 12, topKind);
    }

    int would(int view, int way, int kind) {
        if (!isView(view) || !in(way, 0, 2) || !in(kind, 0, new int[] {8, 7, 9}[way])) {
            return BAD;
        }
        View real = views.get(view);
        try {
            if (way == 0) {
                ample(real, kind).read(0);
            } else {
                Thing thing = kind == 8 ? NOTHING : new Thing(kind, 0);
                ample(real, real.kind).write(0, thing, way == 1 ? kind : 8);
            }
            return 0;
        } catch (Refused r) {
            return r.code;
        }
    }

    int shares(int a, int b) {
        if (!isView(a) || !isView(b)) {
            return BAD;
        }
        Set<String> of = new HashSet<>();
        for (int i = 0; i < 12; i++) {
            of.add(views.get(b).cell(i));
        }
        of.remove(null);
        int bits = 0;
        for (int i = 0; i < 12; i++) {
            bits |= of.contains(views.get(a).cell(i)) ? 1 << i : 0;
        }
        return bits;
    }

    private boolean safeIn(View a, View b, int n, boolean down) {
        Set<String> written = new HashSet<>();
        for (int i = 0; i < n; i++) {
            int k = down ? n - 1 - i : i;
            if (written.contains(a.cell(k))) {
                return false;
            }
            String to = b.cell(k);
            if (to != null && !written.add(to) && down) {
                return false;
            }
        }
        return true;
    }

    int safe(int a, int b) {
        if (!isView(a) || !isView(b)) {
            return BAD;
        }
        View x = views.get(a);
        View y = views.get(b);
        int n = Math.min(x.count, y.count);
        return (safeIn(x, y, n, false) ? 1 : 0) | (safeIn(x, y, n, true) ? 2 : 0);
    }

    int sees(int attempt, int what) {
        if (!in(attempt, 0, 25) || !in(what, 0, 3)) {
            return BAD;
        }
        if (seen.size() == 6) {
            return FULL;
        }
        seen.add(new int[] {attempt, what});
        return seen.size();
    }

    int forget() {
        int had = seen.size();
        seen.clear();
        return had;
    }

    /** The TRY itself, at a BANK of that KIND. */
    static int tried(int attempt, int kind) {
        Bank bank = new Bank(0, kind, 1);
        try {
            if (attempt <= 8) {
                bank.give(0, attempt);
            } else if (attempt <= 16) {
                bank.put(0, new Thing(attempt - 9, 0), attempt - 9);
            } else if (attempt <= 24) {
                bank.put(0, new Thing(attempt - 17, 0), 8);
            } else {
                bank.put(0, new Thing(9, 3), 8);
            }
            return 0;
        } catch (Refused r) {
            return r.code == GONE ? 1 : r.code == BARE ? 2 : 3;
        }
    }

    private int unseenBits() {
        int bits = 0;
        for (int k = 0; k <= 12; k++) {
            boolean so = true;
            for (int[] s : seen) {
                so &= tried(s[0], k) == s[1];
            }
            bits |= so ? 1 << k : 0;
        }
        return bits;
    }

    int unseen(int what) {
        return what == 0 ? Integer.bitCount(unseenBits()) : what == 1 ? unseenBits() : BAD;
    }

    /** Of each set of KINDS {how many TRIES, the first}: kept for all objects, since it hangs on nothing else. */
    private static final Map<Integer, int[]> FEWEST = new HashMap<>();
    private static final int[][] ANSWERS = new int[26][13];

    static {
        for (int t = 0; t < 26; t++) {
            for (int k = 0; k < 13; k++) {
                ANSWERS[t][k] = tried(t, k);
            }
        }
    }

    private static int[] fewestOf(int bits) {
        int[] known = FEWEST.get(bits);
        if (known != null) {
            return known;
        }
        int[] best = {0, NONE};
        if (Integer.bitCount(bits) > 1) {
            best[0] = 1000;
            for (int t = 0; t < 26; t++) {
                int worst = 0;
                for (int answer = 0; answer < 4; answer++) {
                    int part = 0;
                    for (int k = 0; k < 13; k++) {
                        part |= (bits >> k & 1) == 1 && ANSWERS[t][k] == answer ? 1 << k : 0;
                    }
                    worst = Math.max(worst, part == bits ? 999 : fewestOf(part)[0]);
                }
                if (worst + 1 < best[0]) {
                    best = new int[] {worst + 1, t};
                }
            }
        }
        FEWEST.put(bits, best);
        return best;
    }

    int fewest(int what) {
        return what == 0 || what == 1 ? fewestOf(unseenBits())[what] : BAD;
    }

    int keep(int image) {
        if (!in(image, 0, 1)) {
            return BAD;
        }
        images.set(image, snapshot());
        return banks.size();
    }

    int back(int image) {
        if (!in(image, 0, 1)) {
            return BAD;
        }
        if (images.get(image) == null) {
            return STATE;
        }
        restore(images.get(image));
        past.clear();
        return images.get(image).size();
    }

    int count(int what) {
        int[] counts = {banks.size(), views.size(), lines.size(), open(), seen.size(), past.size()};
        return in(what, 0, 5) ? counts[what] : BAD;
    }
}
