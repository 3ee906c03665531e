/** Promise 29: fewest, with what the Terms say of FEWEST. */
public final class Promise29FewestTest extends Promise {
    private static final int ALL = 8191, WITH_CELLS = 2047;
    /** For each TRY the KINDS (bits) at which it is WELL, by what writes() and reads() answer. */
    private static final int[] WELL = new int[26];

    public static void main(String[] args) {
        for (int attempt = 0; attempt <= 25; attempt++) {
            for (int bank = 0; bank <= 10; bank++) {
                WELL[attempt] |= answered(bank, attempt) == 0 ? 1 << bank : 0;
            }
        }
        whatBounds();
        allLeft();
        oneLeft();
        noneLeft();
        twoLeft();
        theLeastTryOfThoseThatDo();
        eachTryMayHangOnWhatCameBefore();
        partedTwoAndTwo();
        eachThatCanBeLeft();
        behindFullAndForget();
        nothingChanges();
        refusedChangesNothing();
        Due.end();
    }

    private static int answered(int bank, int attempt) {
        if (attempt <= 8) {
            return pair(bank, 1, attempt).reads(0, 0);
        }
        if (attempt == 25) {
            return pair(bank, 1, 8).writes(0, 0, 9, 1, 0);
        }
        int kind = (attempt - 9) % 8;
        return attempt <= 16 ? pair(bank, 1, kind).writes(0, 0, kind, 0, 0) : pair(bank, 1, 8).writes(0, 0, kind, 1, 0);
    }

    private static void whatBounds() {
        for (int what : new int[] {-1, 2, MIN, MAX}) {
            due("what 0, 1: " + what, new WidenedBanks().fewest(what), BAD);
        }
        due("what 0, 1: 0", new WidenedBanks().fewest(0), 4);
        due("what 0, 1: 1", new WidenedBanks().fewest(1), 4);
    }

    private static void few(String sentence, WidenedBanks x, int tries, int first) {
        due(sentence + ": how many", x.fewest(0), tries);
        due(sentence + ": the first", x.fewest(1), first);
    }

    private static void allLeft() {
        // Eleven KINDS with CELLS and two answers for these: three TRIES would tell eight apart.
        few("all KINDS", new WidenedBanks(), 4, 4);
    }

    private static void oneLeft() {
        int[][] seen = {{0, 0}, {16, 0}, {0, 1}, {0, 2}};
        for (int[] s : seen) {
            WidenedBanks x = new WidenedBanks();
            x.sees(s[0], s[1]);
            due("one is left", x.unseen(0), 1);
            few("none is needed", x, 0, NONE);
        }
    }

    private static void noneLeft() {
        WidenedBanks x = new WidenedBanks();
        x.sees(0, 0);
        x.sees(0, 1);
        due("none is left", x.unseen(0), 0);
        few("none is needed", x, 0, NONE);
    }

    private static void twoLeft() {
        WidenedBanks x = new WidenedBanks();
        x.sees(25, 0);
        due("8, 9", x.unseen(1), 256 + 512);
        few("a NUMBER of KIND 0 BY 8", x, 1, 17);
        WidenedBanks y = new WidenedBanks();
        y.sees(3, 0);
        due("1, 3", y.unseen(1), 2 + 8);
        few("BY 1", y, 1, 1);
        WidenedBanks z = new WidenedBanks();
        z.sees(15, 0);
        due("6, 7", z.unseen(1), 64 + 128);
        few("BY 6", z, 1, 6);
        WidenedBanks w = new WidenedBanks();
        w.sees(17, 0);
        due("0, 8", w.unseen(1), 1 + 256);
        few("BY 0", w, 1, 0);
        WidenedBanks v = new WidenedBanks();
        v.sees(17, 3);
        v.sees(7, 3);
        due("9, 10", v.unseen(1), 512 + 1024);
        few("a NUMBER of KIND 4 BY 8", v, 1, 21);
    }

    private static void theLeastTryOfThoseThatDo() {
        WidenedBanks x = new WidenedBanks();
        x.sees(7, 3);
        due("0, 8, 9, 10", x.unseen(1), 1 + 256 + 512 + 1024);
        // BY 0 would leave three; a NUMBER of KIND 0 BY 8 leaves two and two.
        few("two and two", x, 2, 17);
        WidenedBanks y = new WidenedBanks();
        y.sees(5, 0);
        due("1 .. 5", y.unseen(1), 62);
        // BY 0 leaves all of them, BY 1 one and four.
        few("one and four will do", y, 3, 1);
    }

    private static void eachTryMayHangOnWhatCameBefore() {
        WidenedBanks x = new WidenedBanks();
        int least = x.fewest(0);
        tryAll(x, least);
        for (int first = 0; first <= 25; first++) {
            for (int came = 0; came <= 3; came += 3) {
                WidenedBanks y = new WidenedBanks();
                y.sees(first, came);
                tryAll(y, y.fewest(0));
            }
        }
    }

    /** Whichever KIND it is of: going on by what fewest(1) tells, at most one is left behind so many TRIES. */
    private static void tryAll(WidenedBanks told, int least) {
        int left = told.unseen(1);
        for (int bank = 0; bank <= 12; bank++) {
            if ((left >> bank & 1) == 0) {
                continue;
            }
            int kinds = left;
            for (int i = 0; i < least && Integer.bitCount(kinds) > 1; i++) {
                int attempt = least(kinds)[1];
                kinds = behind(kinds, attempt, bank);
            }
            due("KIND " + bank + " is known", kinds, 1 << bank);
        }
    }

    private static int behind(int kinds, int attempt, int bank) {
        if (bank >= 11) {
            return kinds & 1 << bank;
        }
        return (WELL[attempt] >> bank & 1) == 1 ? kinds & WELL[attempt] : kinds & WITH_CELLS & ~WELL[attempt];
    }

    /** For each set of KINDS the least number of TRIES, and the least TRY to begin with: told once, from few KINDS to many. */
    private static final int[][] KNOWN = new int[ALL + 1][];

    private static int[] least(int kinds) {
        if (KNOWN[kinds] == null) {
            int tries = Integer.bitCount(kinds) <= 1 ? 0 : 99;
            int first = NONE;
            for (int attempt = 0; attempt <= 25 && Integer.bitCount(kinds) > 1; attempt++) {
                int well = kinds & WELL[attempt];
                int unlike = kinds & WITH_CELLS & ~WELL[attempt];
                if (well == kinds || unlike == kinds) {
                    continue;
                }
                int need = 1 + Math.max(least(well)[0], least(unlike)[0]);
                if (need < tries) {
                    tries = need;
                    first = attempt;
                }
            }
            KNOWN[kinds] = new int[] {tries, first};
        }
        return KNOWN[kinds];
    }

    /** All sets of KINDS that six SEEN or fewer can leave, each by a shortest way. */
    private static void eachThatCanBeLeft() {
        int[] before = new int[ALL + 1];
        int[] by = new int[ALL + 1];
        int[] length = new int[ALL + 1];
        int[] found = new int[ALL + 1];
        int many = 1;
        found[0] = ALL;
        for (int next = 0; next < many; next++) {
            int left = found[next];
            due("KINDS " + left + ": asked", askedBehind(left, before, by), left);
            for (int seen = 0; seen < 104 && length[left] < 6; seen++) {
                int then = left & soBy(seen % 26, seen / 26);
                if (then != ALL && before[then] == 0) {
                    before[then] = left;
                    by[then] = seen;
                    length[then] = length[left] + 1;
                    found[many++] = then;
                }
            }
        }
        due("many can be left", many > 300 ? 1 : 0, 1);
    }

    private static int soBy(int attempt, int came) {
        return came == 0 ? WELL[attempt] : came == 1 ? 2048 : came == 2 ? 4096 : WITH_CELLS & ~WELL[attempt];
    }

    /** Goes the way from ALL to a set of KINDS on a new object; asks fewest() there; answers what is left. */
    private static int askedBehind(int kinds, int[] before, int[] by) {
        WidenedBanks x = new WidenedBanks();
        for (int at = kinds; at != ALL; at = before[at]) {
            x.sees(by[at] % 26, by[at] / 26);
        }
        few("KINDS " + kinds, x, least(kinds)[0], least(kinds)[1]);
        return x.unseen(1);
    }

    private static void partedTwoAndTwo() {
        WidenedBanks x = new WidenedBanks();
        x.sees(14, 3);
        x.sees(0, 3);
        x.sees(3, 3);
        x.sees(2, 3);
        due("4, 8, 9, 10", x.unseen(1), 16 + 256 + 512 + 1024);
        // BY 0 .. 8 and BY the KIND of a NUMBER part them no better than one and three.
        few("a NUMBER of KIND 1 BY 8", x, 2, 18);
    }

    private static void behindFullAndForget() {
        WidenedBanks x = new WidenedBanks();
        for (int i = 0; i < 6; i++) {
            x.sees(8, 0);
        }
        few("6 are SEEN, and yet", x, 4, 4);
        x.forget();
        few("nothing is SEEN", x, 4, 4);
    }

    private static void nothingChanges() {
        new Asked(States::rich).same("behind fewest()", () -> {
            WidenedBanks x = States.rich();
            x.fewest(0);
            x.fewest(1);
            return x;
        });
    }

    private static void refusedChangesNothing() {
        Asked rich = new Asked(States::rich);
        rich.stands("BAD: 2", BAD, x -> x.fewest(2));
        rich.stands("BAD: -1", BAD, x -> x.fewest(-1));
    }
}
