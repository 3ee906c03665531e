/** Promises 26 to 29: sees, forget, unseen, fewest. */
public final class TriesTest {
    private static final int ALL = 8191, WITH_CELLS = 2047;
    /** For each TRY the KINDS at which it is WELL. */
    private static final int[][] WELL = {
        {0}, {1}, {2}, {1, 3}, {1, 2, 3, 4}, {1, 2, 3, 4, 5}, {1, 2, 3, 4, 5, 6}, {1, 2, 3, 4, 5, 6, 7},
        {0, 1, 2, 3, 4, 5, 6, 7, 8, 9, 10},
        {0}, {1, 3, 4, 5, 6, 7}, {2, 4, 5, 6, 7}, {3, 4, 5, 6, 7}, {4, 5, 6, 7}, {5, 6, 7}, {6, 7}, {7},
        {0, 8}, {1, 3, 4, 5, 6, 7, 8}, {2, 4, 5, 6, 7, 8}, {3, 4, 5, 6, 7, 8}, {4, 5, 6, 7, 8, 10}, {5, 6, 7, 8}, {6, 7, 8}, {7, 8},
        {8, 9}};

    public static void main(String[] args) {
        eachTry();
        seesAndForget();
        several();
        fewestAtFirst();
        fewestOfFew();
        bad();
        Due.end();
    }

    private static int bits(int[] kinds) {
        int all = 0;
        for (int kind : kinds) {
            all |= 1 << kind;
        }
        return all;
    }

    private static void eachTry() {
        for (int t = 0; t <= 25; t++) {
            int well = bits(WELL[t]);
            int[] want = {well, 1 << 11, 1 << 12, WITH_CELLS & ~well};
            for (int came = 0; came <= 3; came++) {
                WidenedBanks x = new WidenedBanks();
                Due.due("sees(" + t + ", " + came + ")", x.sees(t, came), 1);
                Due.due("unseen(1) by " + t + ", " + came, x.unseen(1), want[came]);
                Due.due("unseen(0) by " + t + ", " + came, x.unseen(0), Integer.bitCount(want[came]));
            }
        }
    }

    private static void seesAndForget() {
        WidenedBanks x = new WidenedBanks();
        Due.due("forget() of nothing", x.forget(), 0);
        for (int i = 1; i <= 6; i++) {
            Due.due("sees", x.sees(8, 0), i);
            Due.due("count(4)", x.count(4), i);
        }
        Due.due("a seventh", x.sees(0, 0), WidenedBanks.FULL);
        Due.due("BAD ahead of FULL", x.sees(26, 0), WidenedBanks.BAD);
        Due.due("the seventh tells nothing", x.unseen(1), WITH_CELLS);
        Due.due("forget()", x.forget(), 6);
        Due.due("count(4)", x.count(4), 0);
        Due.due("unseen(1)", x.unseen(1), ALL);
        Due.due("unseen(0)", x.unseen(0), 13);
        Due.due("sees again", x.sees(0, 0), 1);
    }

    private static void several() {
        WidenedBanks x = new WidenedBanks();
        x.sees(7, 0);
        x.sees(13, 0);
        Due.due("read BY 7, takes 4", x.unseen(1), 16 + 32 + 64 + 128);
        x.sees(14, 3);
        Due.due("refuses 5", x.unseen(1), 16);
        Due.due("one is left", x.fewest(0), 0);
        Due.due("none is needed", x.fewest(1), WidenedBanks.NONE);
        x.sees(0, 1);
        Due.due("none is so", x.unseen(1), 0);
        Due.due("none is so", x.unseen(0), 0);
        Due.due("none is left", x.fewest(0), 0);
        Due.due("none is left", x.fewest(1), WidenedBanks.NONE);
    }

    private static void fewestAtFirst() {
        WidenedBanks x = new WidenedBanks();
        // 11 KINDS with CELLS and two answers for them: 3 TRIES tell 8 at most. TRIES 0 .. 3 leave more than 8 in one part.
        Due.due("fewest(0)", x.fewest(0), 4);
        Due.due("fewest(1)", x.fewest(1), 4);
        x.sees(8, 0);
        Due.due("with CELLS", x.fewest(0), 4);
        Due.due("with CELLS", x.fewest(1), 4);
        x.forget();
        x.sees(8, 1);
        Due.due("GONE", x.fewest(0), 0);
        Due.due("GONE", x.fewest(1), WidenedBanks.NONE);
    }

    private static void fewestOfFew() {
        WidenedBanks x = new WidenedBanks();
        x.sees(25, 0);
        Due.due("8, 9", x.unseen(1), 256 + 512);
        Due.due("one TRY", x.fewest(0), 1);
        Due.due("a NUMBER BY 8", x.fewest(1), 17);
        x.forget();
        x.sees(3, 0);
        Due.due("1, 3", x.unseen(1), 2 + 8);
        Due.due("one TRY", x.fewest(0), 1);
        Due.due("BY 1", x.fewest(1), 1);
        x.forget();
        x.sees(15, 0);
        Due.due("6, 7", x.unseen(1), 64 + 128);
        Due.due("BY 6", x.fewest(1), 6);
        x.forget();
        x.sees(7, 3);
        Due.due("0, 8, 9, 10", x.unseen(1), 1 + 256 + 512 + 1024);
        Due.due("two TRIES", x.fewest(0), 2);
        // BY 0 parts 1 from 3; 0 of KIND 0 BY 8 parts {0, 8} from {9, 10}.
        Due.due("0 BY 8", x.fewest(1), 17);
        x.sees(0, 3);
        Due.due("8, 9, 10", x.fewest(0), 2);
        Due.due("8, 9, 10", x.fewest(1), 17);
        x.forget();
        x.sees(5, 0);
        Due.due("1 .. 5", x.fewest(0), 3);
        Due.due("1 .. 5", x.fewest(1), 1);
    }

    private static void bad() {
        WidenedBanks x = new WidenedBanks();
        int[][] bad = {{-1, 0}, {26, 0}, {0, -1}, {0, 4}, {Integer.MIN_VALUE, 0}, {0, Integer.MAX_VALUE}};
        for (int[] b : bad) {
            Due.due("sees(" + b[0] + ", " + b[1] + ")", x.sees(b[0], b[1]), WidenedBanks.BAD);
        }
        Due.due("nothing was SEEN", x.count(4), 0);
        for (int what : new int[] {-1, 2, Integer.MIN_VALUE, Integer.MAX_VALUE}) {
            Due.due("unseen(" + what + ")", x.unseen(what), WidenedBanks.BAD);
            Due.due("fewest(" + what + ")", x.fewest(what), WidenedBanks.BAD);
        }
    }
}
