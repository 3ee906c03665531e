/** Promises 5 to 12: reads, looks, number, kind, writes, does, copies, undo. */
public final class DoneTest {
    private static final int MIN = Integer.MIN_VALUE, MAX = Integer.MAX_VALUE;
    private static final long EDGE = 1L << 60;

    public static void main(String[] args) {
        widening();
        roundedNumbers();
        ranges();
        readRefusals();
        looks();
        tellsTheLatest();
        writeByAny();
        writeByNumber();
        writeRefusalsInOrder();
        writesBad();
        moved();
        sums();
        sumOfWideKinds();
        sumRefusals();
        swapped();
        copies();
        copiesSkip();
        undo();
        undoTen();
        doesBad();
        Due.end();
    }

    /** BANK 0 of a KIND with 4 CELLS, VIEW 0 of it of a KIND. */
    private static WidenedBanks pair(int bankKind, int viewKind) {
        WidenedBanks x = new WidenedBanks();
        x.bank(bankKind, 4);
        x.view(0, 0, 1, 4, viewKind);
        return x;
    }

    private static void cell(String what, WidenedBanks x, int bank, int place, int kind, long number) {
        Due.due(what + ": looks", x.looks(bank, place), 0);
        Due.due(what + ": number", x.number(), number);
        Due.due(what + ": kind", x.kind(), kind);
    }

    private static void widening() {
        String[] wider = {"0", "134567", "24567", "34567", "4567", "567", "67", "7"};
        for (int from = 0; from <= 10; from++) {
            for (int to = 0; to <= 8; to++) {
                boolean well = to == 8 || from <= 7 && wider[from].indexOf('0' + to) >= 0;
                WidenedBanks x = pair(from, to);
                Due.due("KIND " + from + " read BY " + to, x.reads(0, 0), well ? 0 : WidenedBanks.UNLIKE);
                if (well) {
                    Due.due("as KIND", x.kind(), to <= 7 ? to : from <= 7 ? from : WidenedBanks.NONE);
                }
            }
        }
        for (int by = 0; by <= 7; by++) {
            for (int to = 0; to <= 10; to++) {
                boolean well = to <= 7 && wider[by].indexOf('0' + to) >= 0;
                WidenedBanks x = pair(to, Math.min(to, 8));
                Due.due("handed BY " + by + " to " + to, x.writes(0, 0, by, 0, 1), well ? 0 : WidenedBanks.UNLIKE);
                Due.due("undone", x.count(5), well ? 1 : 0);
            }
        }
    }

    private static void roundedNumbers() {
        long[][] of6 = {{16777215, 16777215}, {16777216, 16777216}, {16777217, 16777216}, {16777218, 16777218},
            {16777219, 16777220}, {16777220, 16777220}, {-16777217, -16777216}, {-16777219, -16777220},
            {33554430, 33554430}, {33554431, 33554432}, {33554433, 33554432}, {33554434, 33554432}, {33554435, 33554436},
            {33554438, 33554440}, {EDGE, EDGE}, {EDGE - 1, EDGE}, {-EDGE, -EDGE}, {-EDGE + 1, -EDGE},
            {EDGE - (1L << 35), EDGE}, {EDGE - (1L << 35) - 1, EDGE - (1L << 36)}, {EDGE - (1L << 36), EDGE - (1L << 36)},
            {0, 0}, {-1, -1}, {5, 5}};
        for (long[] c : of6) {
            WidenedBanks x = pair(6, 6);
            Due.due("writes 6 " + c[0], x.writes(0, 0, 6, 0, c[0]), 0);
            cell("6 of " + c[0], x, 0, 0, 6, c[1]);
            WidenedBanks y = pair(5, 6);
            y.view(0, 0, 1, 4, 5);
            y.writes(1, 0, 5, 0, c[0]);
            Due.due("reads 5 as 6", y.reads(0, 0), 0);
            Due.due("5 as 6: " + c[0], y.number(), c[1]);
            cell("5 stays: " + c[0], y, 0, 0, 5, c[0]);
        }
        long two53 = 1L << 53;
        long[][] of7 = {{two53 - 1, two53 - 1}, {two53, two53}, {two53 + 1, two53}, {two53 + 2, two53 + 2}, {two53 + 3, two53 + 4},
            {-two53 - 1, -two53}, {-two53 - 3, -two53 - 4}, {2 * two53 + 2, 2 * two53}, {2 * two53 + 3, 2 * two53 + 4},
            {2 * two53 + 6, 2 * two53 + 8}, {EDGE, EDGE}, {EDGE - 1, EDGE}, {EDGE - 64, EDGE}, {EDGE - 65, EDGE - 128},
            {-EDGE + 64, -EDGE}, {16777217, 16777217}};
        for (long[] c : of7) {
            WidenedBanks x = pair(7, 8);
            Due.due("writes 7 " + c[0], x.writes(0, 0, 7, 1, c[0]), 0);
            cell("7 of " + c[0], x, 0, 0, 7, c[1]);
            WidenedBanks y = pair(7, 5);
            Due.due("hands 5 to 7", y.writes(0, 0, 5, 0, c[0]), 0);
            cell("5 to 7: " + c[0], y, 0, 0, 7, c[1]);
        }
        WidenedBanks z = pair(8, 8);
        z.writes(0, 0, 6, 1, 16777217);
        cell("ROUNDED as it is written, whatever it goes to", z, 0, 0, 6, 16777216);
        WidenedBanks w = new WidenedBanks();
        w.bank(7, 1);
        w.view(0, 0, 1, 1, 6);
        w.view(10, 0, 1, 1, 5);
        Due.due("5 through 6 to 7", w.writes(1, 0, 5, 0, 16777217), 0);
        cell("ROUNDED on its way", w, 0, 0, 7, 16777216);
        Due.due("5 to 6 to 7", w.writes(0, 0, 5, 0, 16777219), 0);
        cell("ROUNDED by the VIEW that it is handed to", w, 0, 0, 7, 16777220);
        WidenedBanks v = new WidenedBanks();
        v.bank(6, 1);
        v.view(0, 0, 1, 1, 7);
        Due.due("5 to 7 to 6: what is handed on is of KIND 7", v.writes(0, 0, 5, 0, 1), WidenedBanks.UNLIKE);
        Due.due("likewise BY 8", v.writes(0, 0, 5, 1, 1), WidenedBanks.UNLIKE);
    }

    private static void ranges() {
        long[][] range = {{0, 1}, {-128, 127}, {0, 65535}, {-32768, 32767}, {MIN, MAX}, {-EDGE, EDGE}, {-EDGE, EDGE}, {-EDGE, EDGE}};
        for (int kind = 0; kind <= 7; kind++) {
            for (int how = 0; how <= 1; how++) {
                WidenedBanks x = pair(kind, kind);
                Due.due("below " + kind, x.writes(0, 0, kind, how, range[kind][0] - 1), WidenedBanks.BAD);
                Due.due("above " + kind, x.writes(0, 0, kind, how, range[kind][1] + 1), WidenedBanks.BAD);
                Due.due("far below " + kind, x.writes(0, 0, kind, how, Long.MIN_VALUE), WidenedBanks.BAD);
                Due.due("far above " + kind, x.writes(0, 0, kind, how, Long.MAX_VALUE), WidenedBanks.BAD);
                Due.due("least of " + kind, x.writes(0, 0, kind, how, range[kind][0]), 0);
                cell("least of " + kind, x, 0, 0, kind, range[kind][0]);
                Due.due("most of " + kind, x.writes(0, 1, kind, how, range[kind][1]), 0);
                cell("most of " + kind, x, 0, 1, kind, range[kind][1]);
            }
        }
    }

    private static void readRefusals() {
        WidenedBanks x = new WidenedBanks();
        x.bank(4, 3);
        x.bank(11, 3);
        x.bank(12, 3);
        x.view(0, -1, 1, 6, 4);
        x.view(0, -1, 1, 6, 3);
        x.view(1, 0, 1, 2, 4);
        x.view(2, 0, 1, 2, 4);
        x.view(10, 0, 1, 12, 3);
        x.view(10, 0, 1, 12, 8);
        x.view(15, 0, 1, 12, 4);
        x.view(12, 1, 1, 2, 3);
        Due.due("no such VIEW", x.reads(8, 0), WidenedBanks.BAD);
        Due.due("VIEW -1", x.reads(-1, 0), WidenedBanks.BAD);
        Due.due("place -1", x.reads(0, -1), WidenedBanks.BAD);
        Due.due("place 12", x.reads(0, 12), WidenedBanks.BAD);
        Due.due("place MIN", x.reads(0, MIN), WidenedBanks.BAD);
        Due.due("VIEW MAX", x.reads(MAX, 0), WidenedBanks.BAD);
        Due.due("PAST below", x.reads(0, 0), WidenedBanks.PAST);
        Due.due("the first CELL", x.reads(0, 1), 0);
        Due.due("the last CELL", x.reads(0, 3), 0);
        Due.due("PAST above", x.reads(0, 4), WidenedBanks.PAST);
        Due.due("OUT", x.reads(0, 6), WidenedBanks.OUT);
        Due.due("OUT at 11", x.reads(0, 11), WidenedBanks.OUT);
        Due.due("UNLIKE ahead of PAST", x.reads(1, 0), WidenedBanks.UNLIKE);
        Due.due("OUT ahead of UNLIKE", x.reads(1, 6), WidenedBanks.OUT);
        Due.due("GONE", x.reads(2, 0), WidenedBanks.GONE);
        Due.due("OUT ahead of GONE", x.reads(2, 2), WidenedBanks.OUT);
        Due.due("BARE", x.reads(3, 0), WidenedBanks.BARE);
        Due.due("OUT ahead of BARE", x.reads(3, 2), WidenedBanks.OUT);
        Due.due("PAST beneath ahead of UNLIKE above", x.reads(4, 0), WidenedBanks.PAST);
        Due.due("UNLIKE above", x.reads(4, 1), WidenedBanks.UNLIKE);
        Due.due("OUT beneath ahead of all", x.reads(4, 6), WidenedBanks.OUT);
        Due.due("any of 4", x.reads(5, 1), 0);
        Due.due("any of 4 has KIND 4", x.kind(), 4);
        Due.due("4 of any of 4", x.reads(6, 1), WidenedBanks.UNLIKE);
        Due.due("GONE beneath ahead of UNLIKE above", x.reads(7, 0), WidenedBanks.GONE);
        Due.due("OUT beneath ahead of GONE", x.reads(7, 1), WidenedBanks.OUT);
    }

    private static void looks() {
        WidenedBanks x = new WidenedBanks();
        x.bank(9, 2);
        x.bank(11, 2);
        x.bank(12, 2);
        x.view(0, 0, 1, 2, 8);
        x.writes(0, 1, 9, 1, 6);
        cell("a NAME", x, 0, 1, 9, 6);
        cell("NOTHING", x, 0, 0, WidenedBanks.NONE, 0);
        Due.due("PAST", x.looks(0, 2), WidenedBanks.PAST);
        Due.due("PAST at 11", x.looks(0, 11), WidenedBanks.PAST);
        Due.due("place 12", x.looks(0, 12), WidenedBanks.BAD);
        Due.due("place -1", x.looks(0, -1), WidenedBanks.BAD);
        Due.due("GONE", x.looks(1, 0), WidenedBanks.GONE);
        Due.due("GONE at 11", x.looks(1, 11), WidenedBanks.GONE);
        Due.due("BAD ahead of GONE", x.looks(1, 12), WidenedBanks.BAD);
        Due.due("BARE", x.looks(2, 1), WidenedBanks.BARE);
        Due.due("no such BANK", x.looks(3, 0), WidenedBanks.BAD);
        Due.due("BANK -1", x.looks(-1, 0), WidenedBanks.BAD);
        Due.due("BANK MIN", x.looks(MIN, 0), WidenedBanks.BAD);
        Due.due("BANK MAX, place MAX", x.looks(MAX, MAX), WidenedBanks.BAD);
    }

    private static void tellsTheLatest() {
        WidenedBanks x = pair(8, 8);
        x.writes(0, 0, 9, 1, 7);
        x.writes(0, 1, 5, 1, -12345678901L);
        Due.due("none told yet", x.number(), 0);
        Due.due("none told yet", x.kind(), WidenedBanks.NONE);
        x.reads(0, 1);
        Due.due("number", x.number(), -12345678901L);
        Due.due("kind", x.kind(), 5);
        x.reads(0, 5);
        x.looks(0, 4);
        x.looks(9, 9);
        Due.due("refused ones tell nothing", x.number(), -12345678901L);
        Due.due("refused ones tell nothing", x.kind(), 5);
        x.does(0, 0, 0, 0, 2);
        x.writes(0, 1, 10, 1, 0);
        x.copies(0, 0, 2);
        x.undo();
        Due.due("only reads, looks tell", x.number(), -12345678901L);
        Due.due("only reads, looks tell", x.kind(), 5);
        x.looks(0, 2);
        Due.due("a NAME's", x.number(), 7);
        Due.due("a NAME's", x.kind(), 9);
        x.reads(0, 3);
        Due.due("of NOTHING", x.number(), 0);
        Due.due("of NOTHING", x.kind(), WidenedBanks.NONE);
    }

    private static void writeByAny() {
        int[] things = {0, 1, 2, 3, 4, 5, 6, 7, 9, 10};
        String[] wider = {"0", "134567", "24567", "34567", "4567", "567", "67", "7"};
        for (int to = 0; to <= 12; to++) {
            for (int thing : things) {
                WidenedBanks x = pair(to, 8);
                int want = to == 11 ? WidenedBanks.GONE : to == 12 ? WidenedBanks.BARE : WidenedBanks.UNLIKE;
                if (to == 8 || to == 9 && thing >= 9 || to == 10 && (thing == 10 || thing == 4)) {
                    want = 0;
                } else if (to <= 7) {
                    want = thing == 10 ? WidenedBanks.VOID : thing <= 7 && wider[thing].indexOf('0' + to) >= 0 ? 0 : WidenedBanks.UNLIKE;
                }
                Due.due("THING " + thing + " BY 8 to " + to, x.writes(0, 1, thing, 1, 1), want);
                if (want == 0) {
                    cell("THING " + thing + " in " + to, x, 0, 1, to <= 7 ? to : thing == 10 ? WidenedBanks.NONE : thing,
                            thing == 10 ? 0 : 1);
                }
                if (to <= 7) {
                    WidenedBanks y = pair(to, to);
                    Due.due("THING " + thing + " BY 8 to a VIEW of " + to, y.writes(0, 1, thing, 1, 1), want);
                }
            }
        }
    }

    private static void writeByNumber() {
        WidenedBanks x = new WidenedBanks();
        x.bank(5, 2);
        x.view(0, 0, 1, 2, 4);
        x.view(10, 0, 1, 2, 3);
        x.view(11, 0, 1, 2, 8);
        Due.due("1 to 3 to 4 to 5", x.writes(1, 0, 1, 0, -5), 0);
        cell("1 to 3 to 4 to 5", x, 0, 0, 5, -5);
        Due.due("2 to 3", x.writes(1, 0, 2, 0, 5), WidenedBanks.UNLIKE);
        Due.due("BY 1 to any", x.writes(2, 0, 1, 0, 5), WidenedBanks.UNLIKE);
        Due.due("1 BY 8 to any to 3 to 4 to 5", x.writes(2, 1, 1, 1, 9), 0);
        cell("1 BY 8", x, 0, 1, 5, 9);
        Due.due("NOTHING BY 8 to any to 3", x.writes(2, 1, 10, 1, 9), WidenedBanks.VOID);
        Due.due("a NAME BY 8 to any to 3", x.writes(2, 1, 9, 1, 9), WidenedBanks.UNLIKE);
        cell("still", x, 0, 1, 5, 9);
    }

    private static void writeRefusalsInOrder() {
        WidenedBanks x = new WidenedBanks();
        x.bank(4, 2);
        x.bank(11, 2);
        x.bank(12, 2);
        x.view(0, 0, 1, 4, 8);
        x.view(1, 5, 1, 4, 8);
        x.view(2, 5, 1, 4, 8);
        x.view(1, 0, 1, 2, 5);
        x.view(2, 0, 1, 2, 5);
        x.view(0, 0, 1, 4, 5);
        x.view(13, 0, 1, 3, 4);
        x.view(14, 0, 1, 3, 4);
        Due.due("OUT ahead of VOID", x.writes(0, 4, 10, 1, 0), WidenedBanks.OUT);
        Due.due("VOID ahead of PAST", x.writes(0, 3, 10, 1, 0), WidenedBanks.VOID);
        Due.due("UNLIKE ahead of PAST", x.writes(0, 3, 9, 1, 0), WidenedBanks.UNLIKE);
        Due.due("PAST", x.writes(0, 3, 4, 1, 0), WidenedBanks.PAST);
        Due.due("OUT ahead of GONE", x.writes(1, 4, 4, 1, 0), WidenedBanks.OUT);
        Due.due("GONE ahead of VOID, PAST", x.writes(1, 3, 10, 1, 0), WidenedBanks.GONE);
        Due.due("BARE ahead of UNLIKE, PAST", x.writes(2, 3, 9, 1, 0), WidenedBanks.BARE);
        Due.due("UNLIKE above ahead of GONE beneath", x.writes(6, 0, 5, 0, 0), WidenedBanks.UNLIKE);
        Due.due("VOID above ahead of BARE beneath", x.writes(7, 0, 10, 1, 0), WidenedBanks.VOID);
        Due.due("OUT beneath ahead of GONE", x.writes(6, 2, 4, 0, 0), WidenedBanks.OUT);
        Due.due("GONE through two", x.writes(6, 0, 4, 0, 0), WidenedBanks.GONE);
        Due.due("BARE through two", x.writes(7, 0, 1, 0, 0), WidenedBanks.BARE);
        Due.due("a VIEW of 5 of a BANK of 4", x.writes(5, 0, 4, 0, 0), WidenedBanks.UNLIKE);
        Due.due("nothing to undo", x.count(5), 0);
    }

    private static void writesBad() {
        WidenedBanks x = pair(8, 8);
        Due.due("VIEW 1", x.writes(1, 0, 4, 1, 0), WidenedBanks.BAD);
        Due.due("VIEW -1", x.writes(-1, 0, 4, 1, 0), WidenedBanks.BAD);
        Due.due("place 12", x.writes(0, 12, 4, 1, 0), WidenedBanks.BAD);
        Due.due("place -1", x.writes(0, -1, 4, 1, 0), WidenedBanks.BAD);
        Due.due("KIND -1", x.writes(0, 0, -1, 1, 0), WidenedBanks.BAD);
        Due.due("KIND 8", x.writes(0, 0, 8, 1, 0), WidenedBanks.BAD);
        Due.due("KIND 11", x.writes(0, 0, 11, 1, 0), WidenedBanks.BAD);
        Due.due("KIND MIN", x.writes(0, 0, MIN, 1, 0), WidenedBanks.BAD);
        Due.due("how 2", x.writes(0, 0, 4, 2, 0), WidenedBanks.BAD);
        Due.due("how -1", x.writes(0, 0, 4, -1, 0), WidenedBanks.BAD);
        Due.due("a NAME BY its KIND", x.writes(0, 0, 9, 0, 0), WidenedBanks.BAD);
        Due.due("NOTHING BY its KIND", x.writes(0, 0, 10, 0, 0), WidenedBanks.BAD);
        Due.due("NAME 10", x.writes(0, 0, 9, 1, 10), WidenedBanks.BAD);
        Due.due("NAME -1", x.writes(0, 0, 9, 1, -1), WidenedBanks.BAD);
        Due.due("BAD ahead of OUT", x.writes(0, 9, 8, 1, 0), WidenedBanks.BAD);
        Due.due("NAME 0", x.writes(0, 0, 9, 1, 0), 0);
        Due.due("NAME 9", x.writes(0, 1, 9, 1, 9), 0);
        Due.due("NOTHING, any number", x.writes(0, 0, 10, 1, Long.MIN_VALUE), 0);
        cell("NOTHING", x, 0, 0, WidenedBanks.NONE, 0);
    }

    private static void moved() {
        WidenedBanks x = new WidenedBanks();
        x.bank(3, 4);
        x.bank(8, 4);
        x.bank(5, 4);
        x.view(0, 0, 1, 4, 3);
        x.view(0, 0, 1, 4, 8);
        x.view(1, 0, 1, 4, 8);
        x.view(2, 0, 1, 4, 5);
        x.view(2, 0, 1, 4, 8);
        x.view(0, 0, 1, 4, 6);
        x.writes(0, 1, 3, 0, -300);
        Due.due("3 to 5", x.does(0, 0, 1, 3, 2), 0);
        cell("3 to 5", x, 2, 2, 5, -300);
        Due.due("BY 3 to any", x.does(0, 0, 1, 2, 0), WidenedBanks.UNLIKE);
        Due.due("3 BY 8 to any", x.does(0, 1, 1, 2, 0), 0);
        cell("3 BY 8 to any", x, 1, 0, 3, -300);
        Due.due("3 as 6 to 5", x.does(0, 5, 1, 3, 0), WidenedBanks.UNLIKE);
        Due.due("3 BY 8 to 5", x.does(0, 1, 1, 4, 3), 0);
        cell("3 BY 8 to 5", x, 2, 3, 5, -300);
        Due.due("NOTHING to 5", x.does(0, 2, 1, 3, 2), WidenedBanks.VOID);
        Due.due("READ's refusal first", x.does(0, 2, 4, 3, 9), WidenedBanks.OUT);
        Due.due("5 to 3", x.does(0, 3, 2, 0, 0), WidenedBanks.UNLIKE);
        cell("nothing changed", x, 0, 0, 3, 0);
    }

    private static void sums() {
        WidenedBanks x = new WidenedBanks();
        x.bank(4, 4);
        x.view(0, 0, 1, 4, 4);
        x.writes(0, 0, 4, 0, 2000000000);
        x.writes(0, 1, 4, 0, 2000000000);
        Due.due("SUM", x.does(1, 0, 0, 0, 1), 0);
        cell("lowest 32 bits", x, 0, 1, 4, -294967296);
        x.writes(0, 2, 4, 0, -3);
        x.writes(0, 3, 4, 0, 10);
        Due.due("LESS", x.does(2, 0, 2, 0, 3), 0);
        cell("b's less a's", x, 0, 3, 4, 13);
        Due.due("GREATER", x.does(3, 0, 2, 0, 3), 0);
        cell("b's is greater", x, 0, 3, 4, 13);
        Due.due("GREATER", x.does(3, 0, 3, 0, 2), 0);
        cell("a's is greater", x, 0, 2, 4, 13);
        x.writes(0, 0, 4, 0, MIN);
        x.writes(0, 1, 4, 0, 1);
        Due.due("LESS below", x.does(2, 0, 1, 0, 0), 0);
        cell("below the least", x, 0, 0, 4, MAX);
        Due.due("SUM of one CELL", x.does(1, 0, 1, 0, 1), 0);
        cell("of one CELL", x, 0, 1, 4, 2);

        WidenedBanks y = new WidenedBanks();
        y.bank(1, 2);
        y.bank(2, 2);
        y.bank(8, 3);
        y.view(0, 0, 1, 2, 1);
        y.view(1, 0, 1, 2, 2);
        y.view(2, 0, 1, 3, 8);
        y.writes(0, 0, 1, 0, -128);
        y.writes(1, 0, 2, 0, 65535);
        y.writes(2, 0, 2, 1, 1);
        Due.due("1 and 2 in a BANK of any", y.does(1, 0, 0, 2, 0), 0);
        cell("is of KIND 4", y, 2, 0, 4, -127);
        Due.due("into a BANK of 2", y.does(1, 0, 0, 1, 0), WidenedBanks.UNLIKE);
        y.writes(2, 1, 6, 1, 3);
        Due.due("2 and 6", y.does(1, 1, 0, 2, 1), 0);
        cell("is of KIND 6", y, 2, 1, 6, 65538);
        y.writes(2, 2, 7, 1, 3);
        Due.due("6 and 7", y.does(3, 2, 1, 2, 2), 0);
        cell("is of KIND 7", y, 2, 2, 7, 65538);
    }

    private static void sumOfWideKinds() {
        WidenedBanks x = new WidenedBanks();
        x.bank(5, 6);
        x.bank(6, 6);
        x.bank(7, 6);
        x.view(0, 0, 1, 6, 5);
        x.view(1, 0, 1, 6, 6);
        x.view(2, 0, 1, 6, 7);
        x.writes(0, 0, 5, 0, EDGE);
        x.writes(0, 1, 5, 0, 1);
        x.writes(0, 2, 5, 0, -EDGE);
        Due.due("5 above", x.does(1, 0, 0, 0, 1), WidenedBanks.WIDE);
        cell("unchanged", x, 0, 1, 5, 1);
        Due.due("5 below", x.does(2, 0, 1, 0, 2), WidenedBanks.WIDE);
        Due.due("5 far below", x.does(2, 0, 0, 0, 2), WidenedBanks.WIDE);
        Due.due("5 at 0", x.does(1, 0, 0, 0, 2), 0);
        cell("5 at 0", x, 0, 2, 5, 0);
        x.writes(0, 3, 5, 0, EDGE - 1);
        Due.due("5 at the edge", x.does(1, 0, 1, 0, 3), 0);
        cell("5 at the edge", x, 0, 3, 5, EDGE);
        // ROUNDED first, and then it is at the edge: not WIDE.
        x.writes(2, 0, 7, 0, EDGE);
        x.writes(2, 1, 7, 0, 100);
        Due.due("7 is ROUNDED to the edge", x.does(1, 2, 1, 2, 0), 0);
        cell("7 is ROUNDED to the edge", x, 2, 0, 7, EDGE);
        x.writes(2, 1, 7, 0, 129);
        Due.due("7 is ROUNDED above it", x.does(1, 2, 1, 2, 0), WidenedBanks.WIDE);
        x.writes(2, 1, 7, 0, 128);
        Due.due("7, half: the one with 0", x.does(1, 2, 1, 2, 0), 0);
        x.writes(1, 0, 6, 0, EDGE);
        x.writes(1, 1, 6, 0, 1L << 36);
        Due.due("6, half: the one with 0", x.does(1, 1, 1, 1, 0), 0);
        cell("6 stays at the edge", x, 1, 0, 6, EDGE);
        x.writes(1, 1, 6, 0, (1L << 36) + (1L << 14));
        Due.due("6 above half", x.does(1, 1, 1, 1, 0), WidenedBanks.WIDE);
        // Both become NUMBERS of KIND 6 first: 16777217 is 16777216 then, and so is 1 more than that.
        x.writes(0, 4, 5, 0, 16777217);
        x.writes(1, 2, 6, 0, 1);
        Due.due("5 and 6", x.does(1, 0, 4, 1, 2), 0);
        cell("ROUNDED twice", x, 1, 2, 6, 16777216);
        x.writes(0, 5, 5, 0, -EDGE + 1);
        Due.due("5 at the lower edge", x.does(2, 0, 1, 0, 5), 0);
        cell("5 at the lower edge", x, 0, 5, 5, -EDGE);
        x.bank(8, 1);
        x.view(3, 0, 1, 1, 8);
        x.writes(3, 0, 5, 1, 16777217);
        x.writes(1, 4, 6, 0, 1);
        Due.due("6 and 5 in a BANK of any", x.does(1, 1, 4, 3, 0), 0);
        cell("b's is ROUNDED ahead of the sum", x, 3, 0, 6, 16777216);
        x.writes(1, 3, 6, 0, 16777216);
        Due.due("GREATER of equals once ROUNDED", x.does(3, 0, 4, 1, 3), 0);
        cell("GREATER of equals once ROUNDED", x, 1, 3, 6, 16777216);
    }

    private static void sumRefusals() {
        WidenedBanks x = new WidenedBanks();
        x.bank(8, 6);
        x.bank(0, 2);
        x.bank(4, 2);
        x.bank(5, 2);
        x.view(0, 0, 1, 6, 8);
        x.view(1, 0, 1, 2, 0);
        x.view(2, 0, 1, 2, 4);
        x.view(3, 0, 1, 2, 5);
        x.writes(0, 1, 9, 1, 5);
        x.writes(0, 2, 4, 1, 5);
        for (int step = 1; step <= 3; step++) {
            Due.due("a NOTHING", x.does(step, 0, 0, 0, 2), WidenedBanks.VOID);
            Due.due("a NAME", x.does(step, 0, 1, 0, 2), WidenedBanks.UNLIKE);
            Due.due("b NOTHING", x.does(step, 0, 2, 0, 0), WidenedBanks.VOID);
            Due.due("b NAME", x.does(step, 0, 2, 0, 1), WidenedBanks.UNLIKE);
            Due.due("a's first: VOID", x.does(step, 0, 0, 0, 1), WidenedBanks.VOID);
            Due.due("a's first: UNLIKE", x.does(step, 0, 1, 0, 0), WidenedBanks.UNLIKE);
            Due.due("a of KIND 0", x.does(step, 1, 0, 2, 0), WidenedBanks.UNLIKE);
            Due.due("b of KIND 0", x.does(step, 2, 0, 1, 0), WidenedBanks.UNLIKE);
            Due.due("b is READ ahead of that", x.does(step, 0, 0, 2, 5), WidenedBanks.OUT);
            Due.due("a is READ first", x.does(step, 2, 5, 0, 9), WidenedBanks.OUT);
        }
        x.writes(3, 0, 5, 0, EDGE);
        x.writes(3, 1, 5, 0, EDGE);
        Due.due("5 into 4", x.does(1, 3, 0, 2, 0), WidenedBanks.UNLIKE);
        x.writes(0, 3, 5, 1, EDGE);
        Due.due("WIDE ahead of what refuses to be written", x.does(1, 3, 0, 0, 3), WidenedBanks.WIDE);
        WidenedBanks y = new WidenedBanks();
        y.bank(5, 2);
        y.view(0, 0, 1, 2, 5);
        y.view(0, 0, 1, 2, 6);
        y.writes(0, 0, 5, 0, EDGE);
        y.writes(0, 1, 5, 0, EDGE);
        Due.due("WIDE ahead of UNLIKE", y.does(1, 0, 0, 1, 1), WidenedBanks.WIDE);
        y.writes(0, 1, 5, 0, 0);
        Due.due("UNLIKE: 6 to 5", y.does(1, 0, 0, 1, 1), WidenedBanks.UNLIKE);
    }

    private static void swapped() {
        WidenedBanks x = new WidenedBanks();
        x.bank(8, 3);
        x.bank(4, 3);
        x.bank(3, 3);
        x.view(0, 0, 1, 3, 8);
        x.view(1, 0, 1, 3, 8);
        x.view(2, 0, 1, 3, 8);
        x.view(1, 0, 1, 3, 4);
        x.view(2, 0, 1, 3, 3);
        x.writes(0, 0, 3, 1, 7);
        x.writes(0, 1, 9, 1, 2);
        x.writes(3, 0, 4, 0, 50000);
        Due.due("SWAPPED", x.does(4, 0, 0, 1, 0), 0);
        cell("b has a's", x, 1, 0, 4, 7);
        cell("a has b's", x, 0, 0, 4, 50000);
        Due.due("a's refused at b", x.does(4, 0, 1, 1, 0), WidenedBanks.UNLIKE);
        Due.due("NOTHING refused at b", x.does(4, 0, 2, 1, 0), WidenedBanks.VOID);
        x.writes(4, 0, 3, 0, -9);
        int may = x.count(5);
        Due.due("b's refused at a", x.does(4, 4, 0, 3, 0), WidenedBanks.UNLIKE);
        cell("b is as it was, too", x, 1, 0, 4, 7);
        cell("a is as it was", x, 2, 0, 3, -9);
        Due.due("nothing more to undo", x.count(5), may);
        Due.due("the same one", x.does(4, 0, 1, 0, 1), 0);
        cell("the same one", x, 0, 1, 9, 2);
        Due.due("READ a first", x.does(4, 0, 3, 1, 4), WidenedBanks.OUT);
        Due.due("then b", x.does(4, 0, 2, 1, 4), WidenedBanks.OUT);
    }

    private static void copies() {
        for (int order = 0; order <= 2; order++) {
            WidenedBanks x = new WidenedBanks();
            x.bank(4, 6);
            x.view(0, 0, 1, 6, 4);
            x.view(0, 2, 1, 4, 4);
            for (int i = 0; i < 6; i++) {
                x.writes(0, i, 4, 0, i + 1);
            }
            Due.due("copies", x.copies(0, 1, order), 0);
            long[][] want = {{1, 2, 1, 2, 1, 2}, {1, 2, 1, 2, 3, 4}, {1, 2, 1, 2, 3, 4}};
            for (int i = 0; i < 6; i++) {
                cell("order " + order, x, 0, i, 4, want[order][i]);
            }
            WidenedBanks y = new WidenedBanks();
            y.bank(4, 4);
            y.bank(4, 1);
            y.view(0, 0, 1, 4, 4);
            y.view(1, 0, 0, 3, 4);
            for (int i = 0; i < 4; i++) {
                y.writes(0, i, 4, 0, i + 1);
            }
            Due.due("all into one CELL", y.copies(0, 1, order), 0);
            cell("the one that came last", y, 1, 0, 4, order == 1 ? 1 : 3);
        }
    }

    private static void copiesSkip() {
        WidenedBanks x = new WidenedBanks();
        x.bank(8, 5);
        x.bank(4, 4);
        x.view(0, 0, 1, 6, 8);
        x.view(1, -1, 1, 6, 8);
        x.writes(0, 0, 4, 1, 10);
        x.writes(0, 1, 4, 1, 11);
        x.writes(0, 2, 9, 1, 2);
        x.writes(0, 4, 1, 1, 14);
        for (int order = 0; order <= 2; order++) {
            // 0 is PAST in b, 2 is a NAME, 3 is NOTHING, 5 is PAST in a.
            Due.due("copies in order " + order, x.copies(0, 1, order), 1 + 4 + 8 + 32);
            cell("1", x, 1, 0, 4, 11);
            cell("4", x, 1, 3, 4, 14);
            cell("skipped", x, 1, 1, 4, 0);
        }
        x.view(0, 0, 1, 3, 4);
        int may = x.count(5);
        Due.due("all are skipped", x.copies(2, 1, 0), 7);
        Due.due("but it was not refused", x.count(5), may + 1);
        Due.due("order 3", x.copies(0, 1, 3), WidenedBanks.BAD);
        Due.due("order -1", x.copies(0, 1, -1), WidenedBanks.BAD);
        Due.due("VIEW 3", x.copies(0, 3, 0), WidenedBanks.BAD);
        Due.due("VIEW -1", x.copies(-1, 0, 0), WidenedBanks.BAD);
        Due.due("VIEW MAX", x.copies(MAX, MIN, 0), WidenedBanks.BAD);
        Due.due("refused ones are not known", x.count(5), may + 1);
        x.writes(0, 1, 4, 1, 71);
        Due.due("copies", x.copies(0, 1, 2), 45);
        cell("copied", x, 1, 0, 4, 71);
        x.undo();
        cell("copies undone, and that alone", x, 1, 0, 4, 11);
        cell("copies undone, and that alone", x, 0, 1, 4, 71);
    }

    private static void undo() {
        WidenedBanks x = pair(4, 4);
        Due.due("none", x.undo(), WidenedBanks.STATE);
        x.writes(0, 0, 4, 0, 1);
        x.does(0, 0, 0, 0, 1);
        x.copies(0, 0, 0);
        x.plans(1, 0, 0, 0, 1);
        x.runs();
        Due.due("four", x.count(5), 4);
        x.bank(8, 2);
        x.view(1, 0, 1, 2, 8);
        x.writes(1, 0, 9, 1, 3);
        x.writes(0, 9, 4, 0, 1);
        x.does(0, 0, 9, 0, 1);
        x.plans(0, 0, 9, 0, 1);
        x.runs();
        Due.due("refused ones are not known", x.count(5), 5);
        cell("after runs", x, 0, 1, 4, 2);
        Due.due("writes undone", x.undo(), 4);
        cell("writes undone", x, 1, 0, WidenedBanks.NONE, 0);
        Due.due("runs undone", x.undo(), 3);
        cell("runs undone", x, 0, 1, 4, 1);
        cell("a BANK that came later", x, 1, 0, WidenedBanks.NONE, 0);
        Due.due("copies undone", x.undo(), 2);
        Due.due("does undone", x.undo(), 1);
        cell("does undone", x, 0, 1, 4, 0);
        cell("writes not", x, 0, 0, 4, 1);
        Due.due("all undone", x.undo(), 0);
        cell("all undone", x, 0, 0, 4, 0);
        Due.due("no more", x.undo(), WidenedBanks.STATE);
        Due.due("LINES stay", x.count(2), 2);
        Due.due("BANKS stay", x.count(0), 2);
    }

    private static void undoTen() {
        WidenedBanks x = pair(4, 4);
        for (int i = 1; i <= 13; i++) {
            x.writes(0, 0, 4, 0, i);
            Due.due("known", x.count(5), Math.min(i, 10));
        }
        Due.due("refused", x.writes(0, 9, 4, 0, 1), WidenedBanks.OUT);
        for (int i = 9; i >= 0; i--) {
            Due.due("undo", x.undo(), i);
            cell("undone", x, 0, 0, 4, i + 3);
        }
        Due.due("older ones are lost", x.undo(), WidenedBanks.STATE);
        x.writes(0, 0, 4, 0, 99);
        Due.due("and one again", x.undo(), 0);
        cell("and one again", x, 0, 0, 4, 3);
    }

    private static void doesBad() {
        WidenedBanks x = pair(4, 4);
        int[][] bad = {{-1, 0, 0, 0, 0}, {5, 0, 0, 0, 0}, {6, 0, 0, 0, 0}, {0, 1, 0, 0, 0}, {0, -1, 0, 0, 0}, {0, 0, -1, 0, 0},
            {0, 0, 12, 0, 0}, {0, 0, 0, 1, 0}, {0, 0, 0, -1, 0}, {0, 0, 0, 0, -1}, {0, 0, 0, 0, 12}, {0, 0, 11, 0, 13},
            {MIN, 0, 0, 0, 0}, {0, MAX, 0, 0, 0}, {0, 0, MIN, 0, 0}, {0, 0, 0, MIN, 0}, {0, 0, 0, 0, MAX}};
        for (int[] b : bad) {
            Due.due("does(" + b[0] + ", " + b[1] + ", " + b[2] + ", " + b[3] + ", " + b[4] + ")",
                    x.does(b[0], b[1], b[2], b[3], b[4]), WidenedBanks.BAD);
        }
        Due.due("place 11 is no BAD one", x.does(0, 0, 11, 0, 11), WidenedBanks.OUT);
    }
}
