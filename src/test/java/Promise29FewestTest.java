/** Promise 29: fewest, with what the Terms say of FEWEST. */
public final class Promise29FewestTest extends Promise {
    private static final int ALL = 8191, WITH_CELLS = 2047;
    /** For each TRY the KINDS (bits) at which it is WELL, by what writes() and reads() answer. */
    private static final int[] WELL = new int[26];

    public static void main(String[] args) {
        for (int attempt = 0; attempt <= 25; attempt++) {
            for (int bank = 0; bank <= 10; bank++) {
                WELL[attempt] |= answered(bank, attempt) == 0 ? 1 << bank : 0;
            }
        }
        whatBounds();
        allLeft();
        oneLeft();
        noneLeft();
        twoLeft();
        theLeastTryOfThoseThatDo();
        eachTryMayHangOnWhatCameBefore();
        eachThatOneOrTwoSeenLeave();
        behindFullAndForget();
        nothingChanges();
        refusedChangesNothing();
        Due.end();
    }

    private static int answered(int bank, int attempt) {
        if (attempt <= 8) {
            return pair(bank, 1, attempt).reads(0, 0);
        }
        if (attempt == 25) {
            return pair(bank, 1, 8).writes(0, 0, 9, 1, 0);
        }
        int kind = (attempt - 9) % 8;
        return attempt <= 16 ? pair(bank, 1, kind).writes(0, 0, kind, 0, 0) : pair(bank, 1, 8).writes(0, 0, kind, 1, 0);
    }

    private static void whatBounds() {
        for (int what : new int[] {-1, 2, MIN, MAX}) {
            due("what 0, 1: " + what, new WidenedBanks().fewest(what), BAD);
        }
        due("what 0, 1: 0", new WidenedBanks().fewest(0), 4);
        due("what 0, 1: 1", new WidenedBanks().fewest(1), 4);
    }

    private static void few(String sentence, WidenedBanks x, int tries, int first) {
        due(sentence + ": how many", x.fewest(0), tries);
        due(sentence + ": the first", x.fewest(1), first);
    }

    private static void allLeft() {
        // Eleven KINDS with CELLS and two answers for these: three TRIES would tell eight apart.
        few("all KINDS", new WidenedBanks(), 4, 4);
    }

    private static void oneLeft() {
        int[][] seen = {{0, 0}, {16, 0}, {0, 1}, {0, 2}};
        for (int[] s : seen) {
            WidenedBanks x = new WidenedBanks();
            x.sees(s[0], s[1]);
            due("one is left", x.unseen(0), 1);
            few("none is needed", x, 0, NONE);
        }
    }

    private static void noneLeft() {
        WidenedBanks x = new WidenedBanks();
        x.sees(0, 0);
        x.sees(0, 1);
        due("none is left", x.unseen(0), 0);
        few("none is needed", x, 0, NONE);
    }

    private static void twoLeft() {
        WidenedBanks x = new WidenedBanks();
        x.sees(25, 0);
        due("8, 9", x.unseen(1), 256 + 512);
        few("a NUMBER of KIND 0 BY 8", x, 1, 17);
        WidenedBanks y = new WidenedBanks();
        y.sees(3, 0);
        due("1, 3", y.unseen(1), 2 + 8);
        few("BY 1", y, 1, 1);
        WidenedBanks z = new WidenedBanks();
        z.sees(15, 0);
        due("6, 7", z.unseen(1), 64 + 128);
        few("BY 6", z, 1, 6);
        WidenedBanks w = new WidenedBanks();
        w.sees(17, 0);
        due("0, 8", w.unseen(1), 1 + 256);
        few("BY 0", w, 1, 0);
        WidenedBanks v = new WidenedBanks();
        v.sees(17, 3);
        v.sees(7, 3);
        due("9, 10", v.unseen(1), 512 + 1024);
        few("a NUMBER of KIND 4 BY 8", v, 1, 21);
    }

    private static void theLeastTryOfThoseThatDo() {
        WidenedBanks x = new WidenedBanks();
        x.sees(7, 3);
        due("0, 8, 9, 10", x.unseen(1), 1 + 256 + 512 + 1024);
        // BY 0 would leave three; a NUMBER of KIND 0 BY 8 leaves two and two.
        few("two and two", x, 2, 17);
        WidenedBanks y = new WidenedBanks();
        y.sees(5, 0);
        due("1 .. 5", y.unseen(1), 62);
        // BY 0 leaves all of them, BY 1 one and four.
        few("one and four will do", y, 3, 1);
    }

    private static void eachTryMayHangOnWhatCameBefore() {
        WidenedBanks x = new WidenedBanks();
        int least = x.fewest(0);
        tryAll(x, least);
        for (int first = 0; first <= 25; first++) {
            for (int came = 0; came <= 3; came += 3) {
                WidenedBanks y = new WidenedBanks();
                y.sees(first, came);
                tryAll(y, y.fewest(0));
            }
        }
    }

    /** Whichever KIND it is of: going on by what fewest(1) tells, at most one is left behind so many TRIES. */
    private static void tryAll(WidenedBanks told, int least) {
        int left = told.unseen(1);
        for (int bank = 0; bank <= 12; bank++) {
            if ((left >> bank & 1) == 0) {
                continue;
            }
            int kinds = left;
            for (int i = 0; i < least && Integer.bitCount(kinds) > 1; i++) {
                int attempt = least(kinds)[1];
                kinds = behind(kinds, attempt, bank);
            }
            due("KIND " + bank + " is known", kinds, 1 << bank);
        }
    }

    private static int behind(int kinds, int attempt, int bank) {
        if (bank >= 11) {
            return kinds & 1 << bank;
        }
        return (WELL[attempt] >> bank & 1) == 1 ? kinds & WELL[attempt] : kinds & WITH_CELLS & ~WELL[attempt];
    }

    /** For each set of KINDS the least number of TRIES, and the least TRY to begin with: told once, from few KINDS to many. */
    private static final int[][] KNOWN = new int[ALL + 1][];

    private static int[] least(int kinds) {
        if (KNOWN[kinds] == null) {
            int tries = Integer.bitCount(kinds) <= 1 ? 0 : 99;
            int first = NONE;
            for (int attempt = 0; attempt <= 25 && Integer.bitCount(kinds) > 1; attempt++) {
                int well = kinds & WELL[attempt];
                int unlike = kinds & WITH_CELLS & ~WELL[attempt];
                if (well == kinds || unlike == kinds) {
                    continue;
                }
                int need = 1 + Math.max(least(well)[0], least(unlike)[0]);
                if (need < tries) {
                    tries = need;
                    first = attempt;
                }
            }
            KNOWN[kinds] = new int[] {tries, first};
        }
        return KNOWN[kinds];
    }

    private static void eachThatOneOrTwoSeenLeave() {
        boolean[] asked = new boolean[ALL + 1];
        for (int seen = 0; seen < 104 * 104; seen++) {
            WidenedBanks x = new WidenedBanks();
            x.sees(seen % 26, seen / 26 % 4);
            x.sees(seen / 104 % 26, seen / 104 / 26);
            int left = x.unseen(1);
            if (!asked[left]) {
                asked[left] = true;
                few("KINDS " + left, x, least(left)[0], least(left)[1]);
            }
        }
        few("all KINDS, told once more", new WidenedBanks(), least(ALL)[0], least(ALL)[1]);
    }

    private static void behindFullAndForget() {
        WidenedBanks x = new WidenedBanks();
        for (int i = 0; i < 6; i++) {
            x.sees(8, 0);
        }
        few("6 are SEEN, and yet", x, 4, 4);
        x.forget();
        few("nothing is SEEN", x, 4, 4);
    }

    private static void nothingChanges() {
        new Asked(States::rich).same("behind fewest()", () -> {
            WidenedBanks x = States.rich();
            x.fewest(0);
            x.fewest(1);
            return x;
        });
    }

    private static void refusedChangesNothing() {
        Asked rich = new Asked(States::rich);
        rich.stands("BAD: 2", BAD, x -> x.fewest(2));
        rich.stands("BAD: -1", BAD, x -> x.fewest(-1));
    }
}
