import java.lang.reflect.Array;

/** Promises 22 to 25: joins, would, shares, safe. */
public final class KindsTest {
    private static final int MAX = Integer.MAX_VALUE;

    public static void main(String[] args) {
        likeTheMachine();
        joins();
        wouldRead();
        wouldWrite();
        wouldOrder();
        wouldBad();
        shares();
        safe();
        safeInto();
        Due.end();
    }

    /** KINDS 0 .. 7 WIDEN as the machine's own boolean, byte, char, short, int, long, float, double do. */
    private static void likeTheMachine() {
        Object[] rows = {new boolean[1], new byte[1], new char[1], new short[1], new int[1], new long[1], new float[1], new double[1]};
        for (int bank = 0; bank <= 7; bank++) {
            WidenedBanks x = new WidenedBanks();
            x.bank(bank, 1);
            x.view(0, 0, 1, 1, 8);
            for (int by = 0; by <= 7; by++) {
                boolean well = true;
                try {
                    Object one = Array.get(rows[by], 0);
                    Array.set(rows[bank], 0, one);
                } catch (IllegalArgumentException refused) {
                    well = false;
                }
                Due.due("KIND " + by + " to " + bank, x.would(0, 2, by), well ? 0 : WidenedBanks.UNLIKE);
            }
        }
    }

    private static void joins() {
        String[] want = {"0........", ".1434567.", ".4244567.", ".3434567.", ".4444567.", ".5555567.", ".6666667.", ".7777777.", "........."};
        for (int a = 0; a <= 8; a++) {
            for (int b = 0; b <= 8; b++) {
                WidenedBanks x = new WidenedBanks();
                x.bank(11, 1);
                x.view(0, 0, 1, 1, a);
                x.view(0, 0, 1, 1, b);
                char w = want[a].charAt(b);
                Due.due("joins of " + a + " and " + b, x.joins(0, 1), w == '.' ? WidenedBanks.NONE : w - '0');
            }
        }
        WidenedBanks x = new WidenedBanks();
        x.bank(4, 1);
        x.view(0, 0, 1, 1, 4);
        Due.due("joins(0, 1)", x.joins(0, 1), WidenedBanks.BAD);
        Due.due("joins(-1, 0)", x.joins(-1, 0), WidenedBanks.BAD);
        Due.due("joins(MAX, MAX)", x.joins(MAX, MAX), WidenedBanks.BAD);
    }

    private static void wouldRead() {
        WidenedBanks x = new WidenedBanks();
        x.bank(3, 1);
        x.bank(9, 1);
        x.bank(11, 1);
        x.bank(12, 1);
        x.view(0, 20, 3, 12, 2);
        x.view(10, 20, 0, 1, 7);
        x.view(0, 0, 1, 1, 5);
        x.view(12, 0, 1, 1, 8);
        x.view(1, 0, 1, 1, 4);
        x.view(2, 0, 1, 1, 0);
        x.view(15, 0, 1, 1, 0);
        x.view(3, 0, 1, 1, 0);
        String[] want = {"UUUWWWWWW", "UUUUUUUUU", "UUUWWWWWW", "UUUUUWWWW", "UUUUUUUUW", "GGGGGGGGG", "GGGGGGGGG", "BBBBBBBBB"};
        for (int view = 0; view < 8; view++) {
            for (int kind = 0; kind <= 8; kind++) {
                char w = want[view].charAt(kind);
                int due = w == 'W' ? 0 : w == 'U' ? WidenedBanks.UNLIKE : w == 'G' ? WidenedBanks.GONE : WidenedBanks.BARE;
                Due.due("would(" + view + ", 0, " + kind + ")", x.would(view, 0, kind), due);
            }
        }
    }

    private static void wouldWrite() {
        WidenedBanks x = new WidenedBanks();
        x.bank(5, 1);
        x.bank(8, 1);
        x.bank(9, 1);
        x.bank(10, 1);
        x.bank(11, 1);
        x.bank(12, 1);
        x.view(0, 0, 1, 1, 4);
        x.view(1, 0, 1, 1, 8);
        x.view(2, 0, 1, 1, 8);
        x.view(3, 0, 1, 1, 8);
        x.view(4, 0, 1, 1, 8);
        x.view(5, 0, 1, 1, 4);
        x.view(1, 0, 1, 1, 4);
        x.view(0, 0, 1, 1, 6);
        String[] byKind = {"UWWWWUUU", "UUUUUUUU", "UUUUUUUU", "UUUUUUUU", "UUUUUUUU", "UBBBBUUU", "UUUUUUUU", "UUUUUUUU"};
        String[] byAny = {"UWWWWUUUVU", "WWWWWWWWWW", "UUUUUUUUWW", "UUUUWUUUWU", "GGGGGGGGGG", "UBBBBUUUVU", "UUUUUUUUVU", "UUUUUUUUVU"};
        for (int view = 0; view < 8; view++) {
            for (int kind = 0; kind <= 7; kind++) {
                Due.due("would(" + view + ", 1, " + kind + ")", x.would(view, 1, kind), told(byKind[view].charAt(kind)));
            }
            for (int kind = 0; kind <= 9; kind++) {
                Due.due("would(" + view + ", 2, " + kind + ")", x.would(view, 2, kind), told(byAny[view].charAt(kind)));
            }
        }
        Due.due("nothing is done", x.count(5), 0);
        Due.due("nothing is done", x.looks(1, 0), 0);
        Due.due("nothing is done", x.kind(), WidenedBanks.NONE);
    }

    private static int told(char w) {
        return w == 'W' ? 0 : w == 'U' ? WidenedBanks.UNLIKE : w == 'G' ? WidenedBanks.GONE : w == 'B' ? WidenedBanks.BARE : WidenedBanks.VOID;
    }

    private static void wouldOrder() {
        WidenedBanks x = new WidenedBanks();
        x.bank(8, 1);
        x.view(0, 0, 1, 1, 8);
        x.view(10, 0, 1, 1, 8);
        x.writes(0, 0, 4, 1, 5);
        Due.due("whatever CELLS have", x.would(1, 0, 4), WidenedBanks.UNLIKE);
        Due.due("whatever CELLS have", x.would(1, 0, 8), 0);
        x.bank(4, 1);
        x.view(1, -20, 0, 1, 4);
        x.view(12, 20, 0, 1, 4);
        Due.due("no PAST", x.would(2, 0, 4), 0);
        Due.due("no OUT", x.would(3, 0, 5), 0);
        Due.due("no OUT", x.would(3, 1, 1), 0);
        Due.due("no OUT", x.would(3, 2, 8), WidenedBanks.VOID);
    }

    private static void wouldBad() {
        WidenedBanks x = new WidenedBanks();
        x.bank(8, 1);
        x.view(0, 0, 1, 1, 8);
        int[][] bad = {{1, 0, 0}, {-1, 0, 0}, {0, -1, 0}, {0, 3, 0}, {0, 0, 9}, {0, 0, -1}, {0, 1, 8}, {0, 1, -1}, {0, 2, 10}, {0, 2, -1}, {MAX, MAX, MAX}};
        for (int[] b : bad) {
            Due.due("would(" + b[0] + ", " + b[1] + ", " + b[2] + ")", x.would(b[0], b[1], b[2]), WidenedBanks.BAD);
        }
    }

    private static void shares() {
        WidenedBanks x = new WidenedBanks();
        x.bank(4, 6);
        x.bank(4, 6);
        x.bank(11, 6);
        x.view(0, 0, 1, 6, 4);
        x.view(0, 0, 2, 4, 4);
        x.view(0, 5, -2, 3, 4);
        x.view(1, 0, 1, 6, 4);
        x.view(2, 0, 1, 6, 4);
        x.view(0, 3, 0, 12, 4);
        x.view(10, -2, 1, 5, 8);
        int[][] want = {
            {63, 21, 42, 0, 0, 8, 7},
            {7, 7, 0, 0, 0, 0, 3},
            {7, 0, 7, 0, 0, 2, 4},
            {0, 0, 0, 63, 0, 0, 0},
            {0, 0, 0, 0, 0, 0, 0},
            {4095, 0, 4095, 0, 0, 4095, 0},
            {28, 20, 8, 0, 0, 0, 28}};
        for (int a = 0; a < 7; a++) {
            for (int b = 0; b < 7; b++) {
                Due.due("shares(" + a + ", " + b + ")", x.shares(a, b), want[a][b]);
            }
        }
        Due.due("shares(7, 0)", x.shares(7, 0), WidenedBanks.BAD);
        Due.due("shares(0, -1)", x.shares(0, -1), WidenedBanks.BAD);
        Due.due("shares(MAX, MAX)", x.shares(MAX, MAX), WidenedBanks.BAD);
    }

    private static void safe() {
        WidenedBanks x = new WidenedBanks();
        x.bank(4, 12);
        x.bank(4, 12);
        x.view(0, 0, 1, 6, 4);
        x.view(0, 2, 1, 6, 4);
        x.view(1, 0, 1, 6, 4);
        x.view(0, 5, -1, 6, 4);
        x.view(0, 6, 1, 6, 4);
        x.view(0, 5, 1, 6, 4);
        x.view(0, 0, 0, 3, 4);
        Due.due("onto itself", x.safe(0, 0), 3);
        Due.due("upward", x.safe(0, 1), 2);
        Due.due("downward", x.safe(1, 0), 1);
        Due.due("another BANK", x.safe(0, 2), 3);
        Due.due("turned round", x.safe(0, 3), 0);
        Due.due("side by side", x.safe(0, 4), 3);
        Due.due("one CELL of both: the last READ, the first WRITTEN", x.safe(0, 5), 2);
        Due.due("one CELL, READ last by 1", x.safe(5, 0), 1);
        Due.due("all from one CELL that is WRITTEN first", x.safe(6, 0), 2);
        // Order 0: CELL 0 is READ at 0 and WRITTEN there, and never READ again. Order 1: b's places are one CELL.
        Due.due("all into one CELL", x.safe(0, 6), 1);
        Due.due("safe(7, 0)", x.safe(7, 0), WidenedBanks.BAD);
        Due.due("safe(0, -1)", x.safe(0, -1), WidenedBanks.BAD);
        Due.due("safe(MAX, MAX)", x.safe(MAX, MAX), WidenedBanks.BAD);
    }

    private static void safeInto() {
        WidenedBanks x = new WidenedBanks();
        x.bank(4, 4);
        x.bank(4, 12);
        x.view(1, 0, 1, 12, 4);
        x.view(0, 0, 0, 12, 4);
        x.view(1, 0, 1, 1, 4);
        x.view(0, 3, 1, 4, 4);
        x.view(0, 4, 0, 4, 4);
        x.view(0, 0, 1, 4, 4);
        Due.due("b's places are one CELL", x.safe(0, 1), 1);
        Due.due("only one of b's places counts", x.safe(2, 1), 3);
        Due.due("PAST is no CELL", x.safe(0, 4), 3);
        Due.due("PAST is no CELL", x.safe(4, 4), 3);
        // Only place 0 of VIEW 3 is a CELL: 3, which is READ at place 3.
        Due.due("WRITTEN at 0, READ at 3", x.safe(5, 3), 2);
        Due.due("WRITTEN at 3, READ at 0", x.safe(3, 5), 1);
        x.view(1, 1, 1, 11, 4);
        x.view(1, 1, 1, 6, 4);
        Due.due("one place on", x.safe(0, 6), 2);
        Due.due("one place back", x.safe(6, 0), 1);
        // Place 6 of VIEW 0 is the last CELL that is WRITTEN, but only places 0 .. 5 are READ.
        Due.due("one place on, b is shorter", x.safe(0, 7), 2);
        WidenedBanks y = new WidenedBanks();
        y.bank(4, 3);
        y.bank(4, 3);
        y.view(0, 0, 1, 3, 4);
        y.view(1, 0, 0, 2, 4);
        y.view(0, 0, 3, 2, 4);
        y.view(0, 1, 1, 2, 4);
        y.view(0, 1, 3, 1, 4);
        y.view(0, 0, 1, 2, 4);
        Due.due("two of b's places, side by side, are one CELL", y.safe(0, 1), 1);
        Due.due("b's place 1 is PAST", y.safe(3, 2), 3);
        // CELL 1 is WRITTEN at 0, and would be READ at place 1, but n is 1.
        Due.due("a has more places than b", y.safe(5, 4), 3);
    }
}
