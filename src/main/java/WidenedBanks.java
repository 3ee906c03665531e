/**
 * Banks of cells of unlike kinds, views upon them, programs over the views. What each call must
 * answer is told by the promises of the document; the words in capitals are the document's.
 *
 * Every row is made in a constructor and used again, since all calls share one small room.
 */
public final class WidenedBanks {
    public static final int BAD = -1, STATE = -2, FULL = -3, OUT = -4, GONE = -5, BARE = -6, UNLIKE = -7, PAST = -8, VOID = -9, WIDE = -10, SPENT = -11, NONE = -20;

    private static final int MOST_BANKS = 6, MOST_CELLS = 12, ALL_CELLS = MOST_BANKS * MOST_CELLS;
    private static final int MOST_VIEWS = 8, MOST_UPON = 4, FIRST_VIEW_BASE = 10;
    private static final int MOST_UNDONE = 10, IMAGES = 2, REFUSALS = 7;
    private static final int MOST_LINES = 16, MOST_WITHIN = 3, MOST_STEPS = 60, MOST_TURNS = 9;

    /** KINDS of BANKS and VIEWS above those of NUMBERS (0 .. 7). */
    private static final int ANY = 8, NAMES = 9, FOURS = 10, GONE_BANK = 11, NO_ROW = 12;
    /** KINDS of THINGS that are no NUMBERS, numbered as writes() is told them. */
    private static final int NAME = 9, NOTHING = 10;

    private static final int MOVED = 0, SUM = 1, LESS = 2, SWAPPED = 4, TURNS = 5, END = 6;
    private static final int INNER_TURN = 12, OUTER_TURN = 13;
    private static final int STOP = 0, LEAVE = 2;
    private static final int OPEN = 5, WELL = 6;

    private static final long EDGE = 1L << 60;
    private static final int NOWHERE = -1000, NO_CELL = -1;

    private final Cells cells;
    private final Views views;
    private final Steps steps;
    private final Lines lines;
    private final Walk walk;
    private final Waves waves;
    private final History history;
    private final Image[] images;
    private final Tries tries;
    private final Thing told;
    private final Thing given;
    private final int[] modeOf;
    private final int[] metOf;
    private final int[] foretold;

    public WidenedBanks() {
        cells = new Cells();
        views = new Views(cells);
        steps = new Steps(cells, views);
        lines = new Lines();
        walk = new Walk(lines);
        waves = new Waves(lines, views);
        history = new History();
        images = new Image[IMAGES];
        for (int i = 0; i < IMAGES; i++) {
            images[i] = new Image();
        }
        tries = new Tries();
        told = new Thing();
        given = new Thing();
        modeOf = new int[REFUSALS];
        metOf = new int[REFUSALS];
        foretold = new int[WELL + 1];
    }

    // ---- banks and views

    public int bank(int kind, int size) {
        if (!within(kind, 0, NO_ROW) || !within(size, 1, MOST_CELLS)) {
            return BAD;
        }
        if (cells.banks == MOST_BANKS) {
            return FULL;
        }
        return cells.addBank(kind, size);
    }

    public int view(int of, int from, int step, int count, int kind) {
        boolean known = of < FIRST_VIEW_BASE ? cells.hasBank(of) : views.has(of - FIRST_VIEW_BASE);
        if (!known || !within(from, -20, 20) || !within(step, -3, 3)
                || !within(count, 1, MOST_CELLS) || !within(kind, 0, ANY)) {
            return BAD;
        }
        if (views.made == MOST_VIEWS || views.depthUpon(of) > MOST_UPON) {
            return FULL;
        }
        return views.addView(of, from, step, count, kind);
    }

    public int clear() {
        int had = cells.banks;
        cells.banks = 0;
        views.made = 0;
        lines.empty();
        history.lose();
        for (int i = 0; i < IMAGES; i++) {
            images[i].lose();
        }
        tries.lose();
        told.become(NOTHING, 0L);
        for (int i = 0; i < REFUSALS; i++) {
            modeOf[i] = STOP;
            metOf[i] = 0;
        }
        return had;
    }

    // ---- what is done

    public int reads(int view, int place) {
        if (!views.has(view) || !isPlace(place)) {
            return BAD;
        }
        int refusal = steps.take(view, place, given);
        if (refusal == 0) {
            told.become(given.kind, given.number);
        }
        return refusal;
    }

    public int looks(int bank, int place) {
        if (!cells.hasBank(bank) || !isPlace(place)) {
            return BAD;
        }
        if (cells.kinds[bank] == GONE_BANK) {
            return GONE;
        }
        if (cells.kinds[bank] == NO_ROW) {
            return BARE;
        }
        if (!cells.hasCell(bank, place)) {
            return PAST;
        }
        cells.fetch(bank, place, told);
        return 0;
    }

    public long number() {
        return told.number;
    }

    public int kind() {
        return told.kind == NOTHING ? NONE : told.kind;
    }

    public int writes(int view, int place, int kind, int how, long number) {
        if (!views.has(view) || !isPlace(place) || !within(how, 0, 1) || !Kinds.isThing(kind, number)) {
            return BAD;
        }
        if (how == 0 && kind > 7) {
            return BAD;
        }
        given.become(kind, kind == NOTHING ? 0L : number);
        history.mark(cells);
        int refusal = steps.put(view, place, given, how == 0 ? kind : ANY);
        if (refusal == 0) {
            history.keepMark();
        }
        return refusal;
    }

    public int does(int step, int a, int p, int b, int q) {
        if (!within(step, MOVED, SWAPPED) || !views.has(a) || !isPlace(p) || !views.has(b) || !isPlace(q)) {
            return BAD;
        }
        history.mark(cells);
        int refusal = steps.perform(step, a, p, b, q);
        if (refusal == 0) {
            history.keepMark();
        }
        return refusal;
    }

    public int copies(int a, int b, int order) {
        if (!views.has(a) || !views.has(b) || !within(order, 0, 2)) {
            return BAD;
        }
        history.mark(cells);
        int skipped = order == 2 ? steps.copyAtOnce(a, b) : steps.copyInOrder(a, b, order == 1);
        history.keepMark();
        return skipped;
    }

    public int undo() {
        if (history.known == 0) {
            return STATE;
        }
        history.stepBack(cells);
        return history.known;
    }

    // ---- programs

    public int plans(int line, int a, int p, int b, int q) {
        if (!isLine(line, a, p, b, q)) {
            return BAD;
        }
        if (line == END && lines.open == 0) {
            return STATE;
        }
        if (lines.size == MOST_LINES || (line == TURNS && lines.open == MOST_WITHIN)) {
            return FULL;
        }
        if (line < TURNS) {
            return lines.append(line, a, p, b, q);
        }
        return lines.append(line, line == TURNS ? a : 0, 0, 0, 0);
    }

    public int drops() {
        if (lines.size == 0) {
            return STATE;
        }
        return lines.dropLast();
    }

    public int modes(int refusal, int mode) {
        if (!isRefusal(refusal) || !within(mode, STOP, LEAVE)) {
            return BAD;
        }
        int was = modeOf[refusal];
        modeOf[refusal] = mode;
        return was;
    }

    public int runs() {
        if (lines.open > 0) {
            return STATE;
        }
        for (int i = 0; i < REFUSALS; i++) {
            metOf[i] = 0;
        }
        history.mark(cells);
        int came = runThrough();
        if (came < 0) {
            history.returnToMark(cells);
        } else {
            history.keepMark();
        }
        return came;
    }

    public int line(int line, int what) {
        if (!lines.has(line) || !within(what, 0, Lines.WIDTH - 1)) {
            return BAD;
        }
        return lines.part(line, what);
    }

    public int met(int refusal) {
        return isRefusal(refusal) ? metOf[refusal] : BAD;
    }

    public int forecast(int what) {
        if (!within(what, 0, WELL)) {
            return BAD;
        }
        if (lines.open > 0) {
            return STATE;
        }
        foretellAll();
        return foretold[what];
    }

    public int wave(int line) {
        if (!lines.has(line)) {
            return BAD;
        }
        if (lines.turnAnywhere()) {
            return STATE;
        }
        waves.find();
        return waves.waveOf(line);
    }

    public int reorders() {
        if (lines.turnAnywhere()) {
            return STATE;
        }
        waves.find();
        return waves.sortLines();
    }

    // ---- how kinds lie to each other

    public int joins(int a, int b) {
        if (!views.has(a) || !views.has(b)) {
            return BAD;
        }
        return Kinds.joined(views.kinds[a], views.kinds[b]);
    }

    public int would(int view, int way, int kind) {
        if (!views.has(view) || !within(way, 0, 2) || !within(kind, 0, way == 0 ? ANY : way == 1 ? 7 : 9)) {
            return BAD;
        }
        if (way == 0) {
            return views.takenUp(view, kind, true);
        }
        if (way == 1) {
            return views.handedDown(view, kind, kind);
        }
        return views.handedDown(view, kind == 8 ? NOTHING : kind, ANY);
    }

    public int shares(int a, int b) {
        if (!views.has(a) || !views.has(b)) {
            return BAD;
        }
        return views.shared(a, b);
    }

    public int safe(int a, int b) {
        if (!views.has(a) || !views.has(b)) {
            return BAD;
        }
        return (views.safeUpward(a, b) ? 1 : 0) + (views.safeDownward(a, b) ? 2 : 0);
    }

    // ---- which kind

    public int sees(int attempt, int came) {
        if (!within(attempt, 0, Tries.LAST) || !within(came, Tries.CAME_WELL, Tries.CAME_UNLIKE)) {
            return BAD;
        }
        if (tries.seen == Tries.MOST_SEEN) {
            return FULL;
        }
        return tries.note(attempt, came);
    }

    public int forget() {
        return tries.lose();
    }

    public int unseen(int what) {
        if (!within(what, 0, 1)) {
            return BAD;
        }
        return what == 0 ? Integer.bitCount(tries.left) : tries.left;
    }

    public int fewest(int what) {
        if (!within(what, 0, 1)) {
            return BAD;
        }
        return what == 0 ? tries.leastTries() : tries.firstTry();
    }

    // ---- images

    public int keep(int image) {
        if (!within(image, 0, IMAGES - 1)) {
            return BAD;
        }
        images[image].record(cells);
        return cells.banks;
    }

    public int back(int image) {
        if (!within(image, 0, IMAGES - 1)) {
            return BAD;
        }
        if (images[image].banks == NONE) {
            return STATE;
        }
        images[image].restore(cells);
        history.lose();
        return images[image].banks;
    }

    public int count(int what) {
        switch (what) {
            case 0:
                return cells.banks;
            case 1:
                return views.made;
            case 2:
                return lines.size;
            case 3:
                return lines.open;
            case 4:
                return tries.seen;
            case 5:
                return history.known;
            default:
                return BAD;
        }
    }

    private static boolean within(int value, int least, int most) {
        return value >= least && value <= most;
    }

    private static boolean isPlace(int place) {
        return within(place, 0, MOST_CELLS - 1);
    }

    private static boolean isRefusal(int refusal) {
        return within(refusal, 0, REFUSALS - 1);
    }

    private boolean isLine(int line, int a, int p, int b, int q) {
        if (line == TURNS) {
            return within(a, 0, MOST_TURNS);
        }
        if (line == END) {
            return true;
        }
        return within(line, MOVED, SWAPPED) && views.has(a) && views.has(b)
                && within(p, 0, OUTER_TURN) && within(q, 0, OUTER_TURN);
    }

    /** STEPS that were taken, or why the RUN is refused. */
    private int runThrough() {
        walk.begin();
        for (int taken = 0; taken < MOST_STEPS; taken++) {
            int line = walk.nextStep();
            if (line == NONE) {
                return taken;
            }
            int refusal = steps.perform(lines.part(line, Lines.WHAT), lines.part(line, Lines.A), walk.place(line, Lines.P),
                    lines.part(line, Lines.B), walk.place(line, Lines.Q));
            int which = OUT - refusal;
            if (refusal == 0 || !isRefusal(which)) {
                continue;
            }
            metOf[which]++;
            if (modeOf[which] == STOP) {
                return refusal;
            }
            if (modeOf[which] == LEAVE) {
                walk.leave();
            }
        }
        return walk.nextStep() == NONE ? MOST_STEPS : SPENT;
    }

    private void foretellAll() {
        for (int i = 0; i <= WELL; i++) {
            foretold[i] = 0;
        }
        walk.begin();
        for (int taken = 0; taken < MOST_STEPS; taken++) {
            int line = walk.nextStep();
            if (line == NONE) {
                return;
            }
            int came = steps.foretell(lines.part(line, Lines.WHAT), lines.part(line, Lines.A), walk.place(line, Lines.P),
                    lines.part(line, Lines.B), walk.place(line, Lines.Q));
            if (within(came, 0, WELL)) {
                foretold[came]++;
            }
        }
    }

    /** How KINDS lie to each other; nothing here knows of places or of what CELLS have. */
    private static final class Kinds {
        /** For each KIND the KINDS (bits) to which it WIDENS. */
        private static final int[] WIDENS = {1, 250, 244, 248, 240, 224, 192, 128};
        private static final long[] LOWEST = {0L, -128L, 0L, -32768L, -2147483648L, -EDGE, -EDGE, -EDGE};
        private static final long[] HIGHEST = {1L, 127L, 65535L, 32767L, 2147483647L, EDGE, EDGE, EDGE};
        private static final int DIGITS_OF_6 = 24, DIGITS_OF_7 = 53;

        static boolean isThing(int kind, long number) {
            if (kind == NOTHING) {
                return true;
            }
            if (kind == NAME) {
                return number >= 0L && number <= 9L;
            }
            return kind >= 0 && kind <= 7 && number >= LOWEST[kind] && number <= HIGHEST[kind];
        }

        static long rounded(long number, int kind) {
            if (kind != 6 && kind != 7) {
                return number;
            }
            long size = Math.abs(number);
            long limit = 1L << (kind == 6 ? DIGITS_OF_6 : DIGITS_OF_7);
            int spare = 0;
            while (spare < 63 && (size >> spare) >= limit) {
                spare++;
            }
            if (spare == 0) {
                return number;
            }
            long unit = 1L << spare;
            long rest = size & (unit - 1L);
            long near = size - rest;
            long half = unit >> 1;
            if (rest > half || (rest == half && (near & unit) != 0L)) {
                near += unit;
            }
            return number < 0L ? -near : near;
        }

        /** What refuses a CELL or a VIEW of a KIND to be taken BY a KIND; 0: nothing does. */
        static int taken(int giver, int by) {
            if (giver == GONE_BANK) {
                return GONE;
            }
            if (giver == NO_ROW) {
                return BARE;
            }
            if (by == ANY) {
                return 0;
            }
            return giver <= 7 && (WIDENS[giver] >> by & 1) == 1 ? 0 : UNLIKE;
        }

        /** What refuses a THING that is handed BY a KIND to one of a KIND; 0: nothing does. */
        static int handed(int thing, int by, int taker) {
            if (taker == GONE_BANK) {
                return GONE;
            }
            if (taker == NO_ROW) {
                return BARE;
            }
            if (by != ANY && taker > 7) {
                return UNLIKE;
            }
            if (taker == ANY) {
                return 0;
            }
            if (taker == NAMES) {
                return thing == NAME || thing == NOTHING ? 0 : UNLIKE;
            }
            if (taker == FOURS) {
                return thing == 4 || thing == NOTHING ? 0 : UNLIKE;
            }
            if (thing == NOTHING) {
                return VOID;
            }
            return thing <= 7 && (WIDENS[thing] >> taker & 1) == 1 ? 0 : UNLIKE;
        }

        static int joined(int a, int b) {
            if (a > 7 || b > 7) {
                return NONE;
            }
            int both = WIDENS[a] & WIDENS[b];
            for (int kind = 0; kind <= 7; kind++) {
                if ((both >> kind & 1) == 1 && (WIDENS[kind] & both) == both) {
                    return kind;
                }
            }
            return NONE;
        }
    }

    private static final class Thing {
        int kind;
        long number;

        Thing() {
            kind = NOTHING;
        }

        void become(int newKind, long newNumber) {
            kind = newKind;
            number = Kinds.rounded(newNumber, newKind);
        }

        /** Only takers of KIND 0 .. 7 make another THING of what they take. */
        void enter(int taker) {
            if (taker <= 7) {
                kind = taker;
                number = Kinds.rounded(number, taker);
            }
        }
    }

    private static final class Cells {
        final int[] kinds = new int[MOST_BANKS];
        final int[] thingKinds = new int[ALL_CELLS];
        final long[] numbers = new long[ALL_CELLS];
        private final int[] sizes = new int[MOST_BANKS];
        int banks;

        boolean hasBank(int bank) {
            return bank >= 0 && bank < banks;
        }

        boolean hasCell(int bank, int place) {
            return place >= 0 && place < sizes[bank];
        }

        int addBank(int kind, int size) {
            int bank = banks;
            kinds[bank] = kind;
            sizes[bank] = kind >= GONE_BANK ? 0 : size;
            for (int place = 0; place < MOST_CELLS; place++) {
                thingKinds[bank * MOST_CELLS + place] = kind <= 7 ? kind : NOTHING;
                numbers[bank * MOST_CELLS + place] = 0L;
            }
            banks = bank + 1;
            return bank;
        }

        void fetch(int bank, int place, Thing into) {
            into.become(thingKinds[bank * MOST_CELLS + place], numbers[bank * MOST_CELLS + place]);
        }

        void store(int bank, int place, Thing thing) {
            thing.enter(kinds[bank]);
            thingKinds[bank * MOST_CELLS + place] = thing.kind;
            numbers[bank * MOST_CELLS + place] = thing.number;
        }
    }

    /** What CELLS had; a BANK that came later is not in it, and so is let be when it is restored. */
    private static final class Image {
        private final int[] thingKinds = new int[ALL_CELLS];
        private final long[] numbers = new long[ALL_CELLS];
        int banks = NONE;

        void lose() {
            banks = NONE;
        }

        void record(Cells cells) {
            banks = cells.banks;
            System.arraycopy(cells.thingKinds, 0, thingKinds, 0, banks * MOST_CELLS);
            System.arraycopy(cells.numbers, 0, numbers, 0, banks * MOST_CELLS);
        }

        void restore(Cells cells) {
            int had = Math.max(0, banks);
            System.arraycopy(thingKinds, 0, cells.thingKinds, 0, had * MOST_CELLS);
            System.arraycopy(numbers, 0, cells.numbers, 0, had * MOST_CELLS);
        }
    }

    /** A ring, and a mark beside it: what is refused in the end must not push the eldest out. */
    private static final class History {
        private final Image[] ring = new Image[MOST_UNDONE];
        private Image marked = new Image();
        private int next;
        int known;

        History() {
            for (int i = 0; i < MOST_UNDONE; i++) {
                ring[i] = new Image();
            }
        }

        void lose() {
            known = 0;
        }

        void mark(Cells cells) {
            marked.record(cells);
        }

        void keepMark() {
            Image eldest = ring[next];
            ring[next] = marked;
            marked = eldest;
            next = (next + 1) % MOST_UNDONE;
            known = Math.min(known + 1, MOST_UNDONE);
        }

        void returnToMark(Cells cells) {
            marked.restore(cells);
        }

        void stepBack(Cells cells) {
            next = (next + MOST_UNDONE - 1) % MOST_UNDONE;
            ring[next].restore(cells);
            known--;
        }
    }

    private static final class Views {
        private final Cells cells;
        private final int[] froms = new int[MOST_VIEWS];
        private final int[] strides = new int[MOST_VIEWS];
        private final int[] depths = new int[MOST_VIEWS];
        /** For each VIEW itself and those beneath it, the lowest one first. */
        private final int[] chains = new int[MOST_VIEWS * MOST_UPON];
        final int[] counts = new int[MOST_VIEWS];
        final int[] kinds = new int[MOST_VIEWS];
        final int[] banks = new int[MOST_VIEWS];
        int made;

        Views(Cells cells) {
            this.cells = cells;
        }

        boolean has(int view) {
            return view >= 0 && view < made;
        }

        int depthUpon(int base) {
            return base < FIRST_VIEW_BASE ? 1 : depths[base - FIRST_VIEW_BASE] + 1;
        }

        int addView(int base, int from, int stride, int places, int ownKind) {
            int view = made;
            int depth = depthUpon(base);
            int elder = base - FIRST_VIEW_BASE;
            for (int level = 0; level < depth - 1; level++) {
                chains[view * MOST_UPON + level] = chains[elder * MOST_UPON + level];
            }
            chains[view * MOST_UPON + depth - 1] = view;
            banks[view] = depth == 1 ? base : banks[elder];
            depths[view] = depth;
            froms[view] = from;
            strides[view] = stride;
            counts[view] = places;
            kinds[view] = ownKind;
            made = view + 1;
            return view;
        }

        /** The place of the BANK, which may have none such; NOWHERE: OUT. */
        int placeInBank(int view, int place) {
            int at = place;
            for (int level = depths[view] - 1; level >= 0; level--) {
                int lower = chains[view * MOST_UPON + level];
                if (at < 0 || at >= counts[lower]) {
                    return NOWHERE;
                }
                at = froms[lower] + strides[lower] * at;
            }
            return at;
        }

        /** One number for each CELL of all BANKS; NO_CELL: OUT or PAST. */
        int cellAt(int view, int place) {
            int at = placeInBank(view, place);
            return at != NOWHERE && cells.hasCell(banks[view], at) ? banks[view] * MOST_CELLS + at : NO_CELL;
        }

        /** What refuses to be taken, up to the VIEW, were it of a KIND; PAST comes between BANK and lowest VIEW. */
        int takenUp(int view, int topKind, boolean cellThere) {
            int giver = cells.kinds[banks[view]];
            for (int level = 0; level < depths[view]; level++) {
                int by = level == depths[view] - 1 ? topKind : kinds[chains[view * MOST_UPON + level]];
                int refusal = Kinds.taken(giver, by);
                if (refusal != 0) {
                    return refusal;
                }
                if (!cellThere) {
                    return PAST;
                }
                giver = by;
            }
            return 0;
        }

        /** What refuses a THING of a KIND that is handed to the VIEW, down to the BANK. */
        int handedDown(int view, int thing, int by) {
            int nowKind = thing;
            int nowBy = by;
            for (int level = depths[view] - 1; level >= 0; level--) {
                int taker = kinds[chains[view * MOST_UPON + level]];
                int refusal = Kinds.handed(nowKind, nowBy, taker);
                if (refusal != 0) {
                    return refusal;
                }
                nowKind = taker <= 7 ? taker : nowKind;
                nowBy = taker;
            }
            return Kinds.handed(nowKind, nowBy, cells.kinds[banks[view]]);
        }

        int readRefusal(int view, int place) {
            int at = placeInBank(view, place);
            return at == NOWHERE ? OUT : takenUp(view, kinds[view], cells.hasCell(banks[view], at));
        }

        int writeRefusal(int view, int place, int thing, int by) {
            int at = placeInBank(view, place);
            if (at == NOWHERE) {
                return OUT;
            }
            int refusal = handedDown(view, thing, by);
            if (refusal != 0) {
                return refusal;
            }
            return cells.hasCell(banks[view], at) ? 0 : PAST;
        }

        /** Whether what is read depends on what CELLS have, and not on KINDS alone. */
        boolean readsAnything(int view) {
            int bankKind = cells.kinds[banks[view]];
            return bankKind >= ANY && bankKind <= FOURS;
        }

        /** The KIND of each NUMBER that is read; only for BANKS of KIND 0 .. 7. */
        int kindRead(int view) {
            int now = cells.kinds[banks[view]];
            for (int level = 0; level < depths[view]; level++) {
                int by = kinds[chains[view * MOST_UPON + level]];
                now = by <= 7 ? by : now;
            }
            return now;
        }

        void comeUp(int view, Thing thing) {
            for (int level = 0; level < depths[view]; level++) {
                thing.enter(kinds[chains[view * MOST_UPON + level]]);
            }
        }

        void goDown(int view, Thing thing) {
            for (int level = depths[view] - 1; level >= 0; level--) {
                thing.enter(kinds[chains[view * MOST_UPON + level]]);
            }
        }

        int shared(int a, int b) {
            int places = 0;
            for (int i = 0; i < counts[a]; i++) {
                if (findsCell(b, 0, counts[b], cellAt(a, i))) {
                    places |= 1 << i;
                }
            }
            return places;
        }

        boolean safeUpward(int a, int b) {
            int both = Math.min(counts[a], counts[b]);
            for (int i = 0; i < both; i++) {
                if (findsCell(b, 0, i, cellAt(a, i))) {
                    return false;
                }
            }
            return true;
        }

        boolean safeDownward(int a, int b) {
            int both = Math.min(counts[a], counts[b]);
            for (int i = 0; i < both; i++) {
                if (findsCell(b, i + 1, both, cellAt(a, i)) || findsCell(b, i + 1, both, cellAt(b, i))) {
                    return false;
                }
            }
            return true;
        }

        private boolean findsCell(int view, int first, int end, int cell) {
            if (cell == NO_CELL) {
                return false;
            }
            for (int place = first; place < end; place++) {
                if (cellAt(view, place) == cell) {
                    return true;
                }
            }
            return false;
        }
    }

    /** Refusals hang on KINDS and places alone, so each is known before the first CELL is changed. */
    private static final class Steps {
        private final Cells cells;
        private final Views views;
        private final Thing first = new Thing();
        private final Thing second = new Thing();
        private final Thing[] row = new Thing[MOST_CELLS];

        Steps(Cells cells, Views views) {
            this.cells = cells;
            this.views = views;
            for (int i = 0; i < MOST_CELLS; i++) {
                row[i] = new Thing();
            }
        }

        int take(int view, int place, Thing into) {
            int refusal = views.readRefusal(view, place);
            if (refusal == 0) {
                cells.fetch(views.banks[view], views.placeInBank(view, place), into);
                views.comeUp(view, into);
            }
            return refusal;
        }

        /** The THING is spent by this: it becomes what each VIEW and the BANK make of it. */
        int put(int view, int place, Thing thing, int by) {
            int refusal = views.writeRefusal(view, place, thing.kind, by);
            if (refusal == 0) {
                views.goDown(view, thing);
                cells.store(views.banks[view], views.placeInBank(view, place), thing);
            }
            return refusal;
        }

        int perform(int step, int a, int p, int b, int q) {
            int refusal = take(a, p, first);
            if (refusal != 0) {
                return refusal;
            }
            if (step == MOVED) {
                return put(b, q, first, views.kinds[a]);
            }
            refusal = take(b, q, second);
            if (refusal != 0) {
                return refusal;
            }
            return step == SWAPPED ? swap(a, p, b, q) : reckon(step, b, q);
        }

        private int swap(int a, int p, int b, int q) {
            int refusal = swapRefusal(a, p, first.kind, b, q, second.kind);
            if (refusal != 0) {
                return refusal;
            }
            put(b, q, first, views.kinds[a]);
            return put(a, p, second, views.kinds[b]);
        }

        private int reckon(int step, int b, int q) {
            int refusal = noTerm(first.kind);
            if (refusal == 0) {
                refusal = noTerm(second.kind);
            }
            if (refusal != 0) {
                return refusal;
            }
            int wider = widerKind(first.kind, second.kind);
            first.enter(wider);
            second.enter(wider);
            long result = Kinds.rounded(combined(step, first.number, second.number), wider);
            if (wider == 4) {
                result = (long) (int) result;
            } else if (result < -EDGE || result > EDGE) {
                return WIDE;
            }
            first.become(wider, result);
            return put(b, q, first, byOfResult(b, wider));
        }

        private static int noTerm(int kindOfThing) {
            if (kindOfThing == NOTHING) {
                return VOID;
            }
            return kindOfThing == NAME || kindOfThing == 0 ? UNLIKE : 0;
        }

        private static int widerKind(int a, int b) {
            return Math.max(4, Math.max(a, b));
        }

        private static long combined(int step, long a, long b) {
            if (step == SUM) {
                return a + b;
            }
            return step == LESS ? b - a : Math.max(a, b);
        }

        private int byOfResult(int b, int resultKind) {
            return views.kinds[b] == ANY ? ANY : resultKind;
        }

        /** What comes first of a STEP, numbered as forecast() tells it. */
        int foretell(int step, int a, int p, int b, int q) {
            int refusal = views.readRefusal(a, p);
            if (refusal != 0) {
                return OUT - refusal;
            }
            if (views.readsAnything(a)) {
                return OPEN;
            }
            if (step == MOVED) {
                return foretoldAs(views.writeRefusal(b, q, views.kindRead(a), views.kinds[a]));
            }
            refusal = views.readRefusal(b, q);
            if (refusal != 0) {
                return OUT - refusal;
            }
            if (views.readsAnything(b)) {
                return OPEN;
            }
            if (step == SWAPPED) {
                return foretoldAs(swapRefusal(a, p, views.kindRead(a), b, q, views.kindRead(b)));
            }
            return foretoldAs(reckonRefusal(a, b, q));
        }

        private static int foretoldAs(int refusal) {
            return refusal == 0 ? WELL : OUT - refusal;
        }

        private int swapRefusal(int a, int p, int kindA, int b, int q, int kindB) {
            int refusal = views.writeRefusal(b, q, kindA, views.kinds[a]);
            return refusal != 0 ? refusal : views.writeRefusal(a, p, kindB, views.kinds[b]);
        }

        private int reckonRefusal(int a, int b, int q) {
            int kindA = views.kindRead(a);
            int kindB = views.kindRead(b);
            if (noTerm(kindA) != 0 || noTerm(kindB) != 0) {
                return UNLIKE;
            }
            int wider = widerKind(kindA, kindB);
            return views.writeRefusal(b, q, wider, byOfResult(b, wider));
        }

        int copyInOrder(int a, int b, boolean downward) {
            int both = Math.min(views.counts[a], views.counts[b]);
            int skipped = 0;
            for (int i = 0; i < both; i++) {
                int place = downward ? both - 1 - i : i;
                if (perform(MOVED, a, place, b, place) != 0) {
                    skipped |= 1 << place;
                }
            }
            return skipped;
        }

        int copyAtOnce(int a, int b) {
            int both = Math.min(views.counts[a], views.counts[b]);
            int skipped = 0;
            for (int place = 0; place < both; place++) {
                if (take(a, place, row[place]) != 0) {
                    skipped |= 1 << place;
                }
            }
            for (int place = 0; place < both; place++) {
                if ((skipped >> place & 1) == 0 && put(b, place, row[place], views.kinds[a]) != 0) {
                    skipped |= 1 << place;
                }
            }
            return skipped;
        }
    }

    private static final class Lines {
        static final int WHAT = 0, A = 1, P = 2, B = 3, Q = 4, WIDTH = 5;
        private final int[] parts = new int[MOST_LINES * WIDTH];
        private final int[] sorted = new int[MOST_LINES * WIDTH];
        int size;
        int open;

        void empty() {
            size = 0;
            open = 0;
        }

        boolean has(int line) {
            return line >= 0 && line < size;
        }

        int part(int line, int which) {
            return parts[line * WIDTH + which];
        }

        int append(int what, int a, int p, int b, int q) {
            int start = size * WIDTH;
            parts[start + WHAT] = what;
            parts[start + A] = a;
            parts[start + P] = p;
            parts[start + B] = b;
            parts[start + Q] = q;
            size++;
            open += opens(what);
            return size;
        }

        int dropLast() {
            size--;
            open -= opens(part(size, WHAT));
            return size;
        }

        private static int opens(int what) {
            return what == TURNS ? 1 : what == END ? -1 : 0;
        }

        /** The END that belongs to TURNS; behind all LINES, if there is none. */
        int endOf(int turnsLine) {
            int deep = 0;
            for (int line = turnsLine; line < size; line++) {
                deep += opens(part(line, WHAT));
                if (deep == 0) {
                    return line;
                }
            }
            return size;
        }

        boolean turnAnywhere() {
            for (int line = 0; line < size; line++) {
                if (part(line, WHAT) >= TURNS || part(line, P) >= INNER_TURN || part(line, Q) >= INNER_TURN) {
                    return true;
                }
            }
            return false;
        }

        /** order: for each new place the LINE that shall lie there. */
        void lieAs(int[] order) {
            for (int line = 0; line < size; line++) {
                System.arraycopy(parts, order[line] * WIDTH, sorted, line * WIDTH, WIDTH);
            }
            System.arraycopy(sorted, 0, parts, 0, size * WIDTH);
        }
    }

    /** Goes through LINES and turns; the same way for a RUN and for a FORECAST. */
    private static final class Walk {
        /** Far above what 16 LINES, three TURNS deep, can need. */
        private static final int MOST_LINES_PASSED = 1000000;
        private final Lines lines;
        private final int[] starts = new int[MOST_WITHIN];
        private final int[] turns = new int[MOST_WITHIN];
        private int deep;
        private int at;

        Walk(Lines lines) {
            this.lines = lines;
        }

        void begin() {
            at = 0;
            deep = 0;
        }

        /** The LINE of the next STEP; NONE: all are gone through. */
        int nextStep() {
            for (int passed = 0; passed < MOST_LINES_PASSED && at < lines.size; passed++) {
                int here = at;
                int what = lines.part(here, Lines.WHAT);
                if (what < TURNS) {
                    at++;
                    return here;
                }
                if (what == TURNS) {
                    enterTurns(here);
                } else {
                    endTurn();
                }
            }
            return NONE;
        }

        private void enterTurns(int line) {
            if (lines.part(line, Lines.A) == 0 || deep == MOST_WITHIN) {
                at = lines.endOf(line) + 1;
                return;
            }
            starts[deep] = line;
            turns[deep] = 0;
            deep++;
            at = line + 1;
        }

        private void endTurn() {
            if (deep == 0) {
                at++;
                return;
            }
            turns[deep - 1]++;
            if (turns[deep - 1] < lines.part(starts[deep - 1], Lines.A)) {
                at = starts[deep - 1] + 1;
            } else {
                deep--;
                at++;
            }
        }

        void leave() {
            if (deep == 0) {
                at = lines.size;
                return;
            }
            deep--;
            at = lines.endOf(starts[deep]) + 1;
        }

        int place(int line, int which) {
            int told = lines.part(line, which);
            if (told < INNER_TURN) {
                return told;
            }
            int level = deep - 1 - (told - INNER_TURN);
            return level >= 0 ? turns[level] : 0;
        }
    }

    /** Only for LINES of which none has to do with turns. */
    private static final class Waves {
        private final Lines lines;
        private final Views views;
        private final int[] cellsOfA = new int[MOST_LINES];
        private final int[] cellsOfB = new int[MOST_LINES];
        private final int[] waveRow = new int[MOST_LINES];
        private final int[] order = new int[MOST_LINES];

        Waves(Lines lines, Views views) {
            this.lines = lines;
            this.views = views;
        }

        int waveOf(int line) {
            return waveRow[line];
        }

        void find() {
            for (int line = 0; line < lines.size; line++) {
                cellsOfA[line] = views.cellAt(lines.part(line, Lines.A), lines.part(line, Lines.P));
                cellsOfB[line] = views.cellAt(lines.part(line, Lines.B), lines.part(line, Lines.Q));
                int later = 0;
                for (int ahead = 0; ahead < line; ahead++) {
                    if (changes(ahead, line) || changes(line, ahead)) {
                        later = Math.max(later, waveRow[ahead] + 1);
                    }
                }
                waveRow[line] = later;
            }
        }

        /** Whether a LINE WRITES a CELL that the other one has to do with; each LINE READS or WRITES both of its own. */
        private boolean changes(int line, int other) {
            return touches(other, cellsOfB[line])
                    || (lines.part(line, Lines.WHAT) == SWAPPED && touches(other, cellsOfA[line]));
        }

        private boolean touches(int line, int cell) {
            return cell != NO_CELL && (cellsOfA[line] == cell || cellsOfB[line] == cell);
        }

        int sortLines() {
            int placed = 0;
            int moved = 0;
            for (int wave = 0; wave < MOST_LINES; wave++) {
                for (int line = 0; line < lines.size; line++) {
                    if (waveRow[line] == wave) {
                        moved += line == placed ? 0 : 1;
                        order[placed] = line;
                        placed++;
                    }
                }
            }
            lines.lieAs(order);
            return moved;
        }
    }

    private static final class Tries {
        static final int LAST = 25, MOST_SEEN = 6, CAME_WELL = 0, CAME_GONE = 1, CAME_BARE = 2, CAME_UNLIKE = 3;
        private static final int FIRST_HANDED = 9, FIRST_HANDED_ANY = 17;
        private static final int ALL_KINDS = 8191, WITH_CELLS = 2047, ONLY_GONE = 2048, ONLY_BARE = 4096;
        private static final int MOST_NEEDED = 13;
        /** For each TRY the KINDS (bits) at which it is WELL. */
        private final int[] well = new int[LAST + 1];
        int left = ALL_KINDS;
        int seen;

        Tries() {
            for (int attempt = 0; attempt <= LAST; attempt++) {
                for (int bankKind = 0; bankKind <= FOURS; bankKind++) {
                    if (tried(attempt, bankKind) == 0) {
                        well[attempt] |= 1 << bankKind;
                    }
                }
            }
        }

        private static int tried(int attempt, int bankKind) {
            if (attempt < FIRST_HANDED) {
                return Kinds.taken(bankKind, attempt);
            }
            if (attempt < FIRST_HANDED_ANY) {
                return Kinds.handed(attempt - FIRST_HANDED, attempt - FIRST_HANDED, bankKind);
            }
            return Kinds.handed(attempt == LAST ? NAME : attempt - FIRST_HANDED_ANY, ANY, bankKind);
        }

        int note(int attempt, int came) {
            left &= kindsBy(attempt, came);
            seen++;
            return seen;
        }

        private int kindsBy(int attempt, int came) {
            if (came == CAME_GONE) {
                return ONLY_GONE;
            }
            if (came == CAME_BARE) {
                return ONLY_BARE;
            }
            return came == CAME_WELL ? well[attempt] : WITH_CELLS & ~well[attempt];
        }

        int lose() {
            int had = seen;
            seen = 0;
            left = ALL_KINDS;
            return had;
        }

        int leastTries() {
            for (int most = 0; most < MOST_NEEDED; most++) {
                if (sorts(well, left, most)) {
                    return most;
                }
            }
            return MOST_NEEDED;
        }

        int firstTry() {
            int least = leastTries();
            return least == 0 ? NONE : beginning(well, left, least);
        }

        private static boolean sorts(int[] well, int kinds, int most) {
            if (Integer.bitCount(kinds) <= 1) {
                return true;
            }
            // Two answers are left to those with CELLS: so many TRIES can't tell more of them apart.
            if (most == 0 || Integer.bitCount(kinds & WITH_CELLS) > 1 << most) {
                return false;
            }
            return beginning(well, kinds, most) != NONE;
        }

        /** The least TRY behind which one less than so many sort all; any TRY tells KINDS 11 and 12 from all others. */
        private static int beginning(int[] well, int kinds, int most) {
            for (int attempt = 0; attempt <= LAST; attempt++) {
                if (sorts(well, kinds & well[attempt], most - 1)
                        && sorts(well, kinds & WITH_CELLS & ~well[attempt], most - 1)) {
                    return attempt;
                }
            }
            return NONE;
        }
    }
}
