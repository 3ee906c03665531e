/** Promise 5: reads, with what the Terms say of READ, of WIDENS and of what comes first. */
public final class Promise05ReadsTest extends Promise {
    public static void main(String[] args) {
        viewBounds();
        placeBounds();
        outAtItsCount();
        outBeneath();
        outFirstOfAll();
        byEachKindFromEachBank();
        byEachKindFromEachView();
        byAKindFrom8To10IsUnlikeWhateverItIs();
        by8TheThing();
        theNumberIsTheSame();
        roundedIn6And7();
        roundedByEachViewOnItsWay();
        goneAheadOfUnlikeAndPast();
        bareAheadOfUnlikeAndPast();
        unlikeAheadOfPast();
        pastOnBothSides();
        beneathAheadOfAbove();
        byEachOfFourViews();
        nothingIsNotVoid();
        refusedChangesNothing();
        Due.end();
    }

    private static void viewBounds() {
        for (int many = 0; many <= 8; many++) {
            WidenedBanks x = new WidenedBanks();
            x.bank(4, 1);
            for (int view = 0; view < many; view++) {
                x.view(0, 0, 1, 1, 4);
            }
            for (int view : new int[] {-1, many, 8, MIN, MAX}) {
                due("no such VIEW: " + view + " of " + many, x.reads(view, 0), BAD);
            }
            if (many > 0) {
                due("the first VIEW of " + many, x.reads(0, 0), 0);
                due("the last VIEW of " + many, x.reads(many - 1, 0), 0);
            }
        }
    }

    private static void placeBounds() {
        WidenedBanks x = row();
        for (int place : new int[] {-1, 12, 13, MIN, MAX}) {
            due("a place (0 .. 11): " + place, x.reads(0, place), BAD);
        }
        read("a place (0 .. 11)", x, 0, 0, 4, 0);
        read("a place (0 .. 11)", x, 0, 11, 4, 11);
        WidenedBanks y = pair(4, 1, 4);
        due("11 is a place, if OUT", y.reads(0, 11), OUT);
        due("12 is none, BAD ahead of OUT", y.reads(0, 12), BAD);
        due("-1 is none, BAD ahead of OUT", y.reads(0, -1), BAD);
    }

    private static void outAtItsCount() {
        for (int count = 1; count <= 11; count++) {
            WidenedBanks x = row();
            x.view(0, 0, 1, count, 4);
            due("place COUNT less 1 of " + count, x.reads(1, count - 1), 0);
            due("place COUNT of " + count, x.reads(1, count), OUT);
        }
    }

    private static void outBeneath() {
        WidenedBanks x = row();
        x.view(0, 4, 1, 3, 4);
        x.view(11, -1, 1, 5, 4);
        due("place -1 of the VIEW beneath, be it a CELL of the BANK", x.reads(2, 0), OUT);
        read("place 0 of the VIEW beneath", x, 2, 1, 4, 4);
        read("place COUNT less 1 of the VIEW beneath", x, 2, 3, 4, 6);
        due("place COUNT of the VIEW beneath", x.reads(2, 4), OUT);
        x.view(12, 0, 1, 12, 4);
        due("two beneath: place -1", x.reads(3, 0), OUT);
        due("two beneath: place COUNT", x.reads(3, 4), OUT);
        due("one beneath: place COUNT", x.reads(3, 5), OUT);
        x.view(13, 0, 1, 12, 4);
        due("three beneath: place -1", x.reads(4, 0), OUT);
        read("three beneath", x, 4, 2, 4, 5);
        due("three beneath: place COUNT", x.reads(4, 4), OUT);
    }

    private static void outFirstOfAll() {
        WidenedBanks x = new WidenedBanks();
        x.bank(11, 1);
        x.bank(12, 1);
        x.bank(4, 1);
        x.view(0, 0, 1, 1, 4);
        x.view(1, 0, 1, 1, 4);
        x.view(2, 5, 1, 1, 0);
        due("GONE", x.reads(0, 0), GONE);
        due("OUT ahead of GONE", x.reads(0, 1), OUT);
        due("BARE", x.reads(1, 0), BARE);
        due("OUT ahead of BARE", x.reads(1, 1), OUT);
        due("UNLIKE, PAST", x.reads(2, 0), UNLIKE);
        due("OUT ahead of UNLIKE, PAST", x.reads(2, 1), OUT);
        x.view(10, 0, 1, 2, 4);
        x.view(12, 0, 1, 2, 4);
        due("OUT beneath ahead of GONE", x.reads(3, 1), OUT);
        due("OUT beneath ahead of UNLIKE", x.reads(4, 1), OUT);
    }

    private static void byEachKindFromEachBank() {
        for (int bank = 0; bank <= 10; bank++) {
            for (int by = 0; by <= 8; by++) {
                boolean well = by == 8 || bank <= 7 && widens(bank, by);
                due("BANK of " + bank + " BY " + by, pair(bank, 1, by).reads(0, 0), well ? 0 : UNLIKE);
            }
        }
    }

    private static void byEachKindFromEachView() {
        for (int lower = 0; lower <= 8; lower++) {
            for (int upper = 0; upper <= 8; upper++) {
                WidenedBanks x = pair(lower, 1, lower);
                x.view(10, 0, 1, 1, upper);
                boolean well = upper == 8 || lower <= 7 && widens(lower, upper);
                due("VIEW of " + lower + " BY " + upper, x.reads(1, 0), well ? 0 : UNLIKE);
            }
        }
    }

    private static void byAKindFrom8To10IsUnlikeWhateverItIs() {
        for (int by = 0; by <= 7; by++) {
            WidenedBanks x = pair(8, 1, 8);
            x.view(0, 0, 1, 1, by);
            x.view(10, 0, 1, 1, by);
            x.writes(0, 0, by, 1, 1);
            due("from 8 a NUMBER of that KIND", x.reads(1, 0), UNLIKE);
            due("from a VIEW of 8 a NUMBER of that KIND", x.reads(2, 0), UNLIKE);
            WidenedBanks y = pair(10, 1, by);
            y.view(0, 0, 1, 1, 8);
            y.writes(1, 0, 4, 1, 1);
            due("from 10 a NUMBER of KIND 4", y.reads(0, 0), UNLIKE);
            WidenedBanks z = pair(by, 1, 8);
            z.view(10, 0, 1, 1, by);
            due("from a VIEW of 8 of a BANK of that KIND", z.reads(1, 0), UNLIKE);
        }
    }

    private static void by8TheThing() {
        WidenedBanks x = pair(8, 3, 8);
        x.view(10, 0, 1, 3, 8);
        x.writes(0, 0, 9, 1, 9);
        x.writes(0, 1, 7, 1, -EDGE);
        read("a NAME", x, 1, 0, 9, 9);
        read("a NUMBER with its KIND", x, 1, 1, 7, -EDGE);
        read("NOTHING", x, 1, 2, NONE, 0);
        for (int bank = 0; bank <= 7; bank++) {
            WidenedBanks y = pair(bank, 1, 8);
            y.writes(0, 0, bank, 1, 1);
            read("a NUMBER of the BANK's KIND", y, 0, 0, bank, 1);
            for (int lower = 0; lower <= 7; lower++) {
                if (widens(bank, lower)) {
                    WidenedBanks z = pair(bank, 1, lower);
                    z.view(10, 0, 1, 1, 8);
                    read("a NUMBER of the VIEW's KIND", z, 1, 0, lower, 0);
                }
            }
        }
    }

    private static void theNumberIsTheSame() {
        long[][] ends = {{0, 1}, {-128, 127}, {0, 65535}, {-32768, 32767}, {MIN, MAX}, {-EDGE, EDGE}};
        for (int from = 0; from <= 5; from++) {
            for (int to = from; to <= 5; to++) {
                for (int end = 0; end <= 1; end++) {
                    if (widens(from, to)) {
                        WidenedBanks x = pair(from, 1, from);
                        x.view(0, 0, 1, 1, to);
                        x.writes(0, 0, from, 0, ends[from][end]);
                        read("the NUMBER, as one of KIND " + to, x, 1, 0, to, ends[from][end]);
                        cell("the CELL is let be", x, 0, 0, from, ends[from][end]);
                    }
                }
            }
        }
    }

    private static void roundedIn6And7() {
        // number, as one of 6, as one of 7.
        long[][] known = {{MAX, 1L << 31, MAX}, {MIN, MIN, MIN}, {16777217, 16777216, 16777217}, {16777219, 16777220, 16777219},
            {-16777217, -16777216, -16777217}, {-16777219, -16777220, -16777219}, {MAX - 64, MAX - 127, MAX - 64}, {MAX - 63, 1L << 31, MAX - 63}};
        for (long[] k : known) {
            WidenedBanks x = pair(4, 1, 4);
            x.view(0, 0, 1, 1, 6);
            x.view(0, 0, 1, 1, 7);
            x.writes(0, 0, 4, 0, k[0]);
            read("4 ROUNDED in 6: " + k[0], x, 1, 0, 6, k[1]);
            read("4 ROUNDED in 7: " + k[0], x, 2, 0, 7, k[2]);
        }
        long two53 = 1L << 53;
        long[][] wide = {{two53 + 1, two53}, {two53 + 3, two53 + 4}, {-two53 - 1, -two53}, {-two53 - 3, -two53 - 4}, {EDGE - 64, EDGE}, {EDGE - 65, EDGE - 128}};
        for (long[] w : wide) {
            WidenedBanks x = pair(5, 1, 5);
            x.view(0, 0, 1, 1, 7);
            x.writes(0, 0, 5, 0, w[0]);
            read("5 ROUNDED in 7: " + w[0], x, 1, 0, 7, w[1]);
            cell("the CELL is let be", x, 0, 0, 5, w[0]);
        }
    }

    private static void roundedByEachViewOnItsWay() {
        WidenedBanks x = pair(5, 1, 5);
        x.view(10, 0, 1, 1, 6);
        x.view(11, 0, 1, 1, 7);
        x.view(12, 0, 1, 1, 8);
        x.writes(0, 0, 5, 0, 16777217);
        read("as one of 5", x, 0, 0, 5, 16777217);
        read("as one of 6", x, 1, 0, 6, 16777216);
        read("as one of 7 that was one of 6", x, 2, 0, 7, 16777216);
        read("the THING that was one of 6", x, 3, 0, 7, 16777216);
    }

    private static void goneAheadOfUnlikeAndPast() {
        for (int by = 0; by <= 8; by++) {
            WidenedBanks x = new WidenedBanks();
            x.bank(11, 1);
            x.view(0, 0, 1, 12, by);
            x.view(0, -20, 1, 1, by);
            due("GONE at a place that was told, BY " + by, x.reads(0, 0), GONE);
            due("GONE behind it", x.reads(0, 11), GONE);
            due("GONE below 0", x.reads(1, 0), GONE);
        }
    }

    private static void bareAheadOfUnlikeAndPast() {
        for (int by = 0; by <= 8; by++) {
            WidenedBanks x = new WidenedBanks();
            x.bank(12, 1);
            x.view(0, 0, 1, 12, by);
            x.view(0, -20, 1, 1, by);
            due("BARE at a place that was told, BY " + by, x.reads(0, 0), BARE);
            due("BARE behind it", x.reads(0, 11), BARE);
            due("BARE below 0", x.reads(1, 0), BARE);
        }
    }

    private static void unlikeAheadOfPast() {
        WidenedBanks x = new WidenedBanks();
        x.bank(4, 2);
        x.bank(8, 2);
        x.view(0, -1, 1, 4, 3);
        x.view(1, -1, 1, 4, 4);
        x.view(0, -1, 1, 4, 4);
        for (int place = 0; place < 4; place++) {
            due("UNLIKE, be it PAST or not", x.reads(0, place), UNLIKE);
            due("UNLIKE, be it PAST or not", x.reads(1, place), UNLIKE);
            due("PAST alone", x.reads(2, place), place == 0 || place == 3 ? PAST : 0);
        }
    }

    private static void pastOnBothSides() {
        for (int kind = 0; kind <= 10; kind++) {
            WidenedBanks x = new WidenedBanks();
            x.bank(kind, 3);
            x.view(0, -1, 1, 5, 8);
            due("PAST: place -1", x.reads(0, 0), PAST);
            due("the first CELL", x.reads(0, 1), 0);
            due("the last CELL", x.reads(0, 3), 0);
            due("PAST: as many as there are", x.reads(0, 4), PAST);
        }
    }

    private static void beneathAheadOfAbove() {
        WidenedBanks x = new WidenedBanks();
        x.bank(4, 1);
        x.bank(11, 1);
        x.bank(12, 1);
        x.view(0, 1, 1, 1, 4);
        x.view(10, 0, 1, 1, 0);
        due("PAST beneath, UNLIKE above", x.reads(1, 0), PAST);
        x.view(1, 0, 1, 1, 4);
        x.view(12, 0, 1, 1, 0);
        due("GONE beneath, UNLIKE above", x.reads(3, 0), GONE);
        x.view(2, 0, 1, 1, 4);
        x.view(14, 0, 1, 1, 0);
        due("BARE beneath, UNLIKE above", x.reads(5, 0), BARE);
        x.view(0, 0, 1, 1, 4);
        x.view(16, 0, 1, 1, 0);
        due("UNLIKE above", x.reads(7, 0), UNLIKE);
    }

    /** Of four VIEWS one upon the other any one may refuse, be it one in the middle. */
    private static void byEachOfFourViews() {
        int[][] chains = {{2, 8, 8, 8}, {3, 2, 8, 8}, {3, 5, 4, 8}, {3, 4, 5, 4}, {3, 4, 8, 5}, {3, 8, 4, 8}};
        for (int[] chain : chains) {
            due("UNLIKE at one of four", four(3, chain).reads(3, 0), UNLIKE);
        }
        read("3 to 3 to 4 to 5 to 6", four(3, new int[] {3, 4, 5, 6}), 3, 0, 6, 0);
        read("1 to 3 to 4 to 4 to 8", four(1, new int[] {3, 4, 4, 8}), 3, 0, 4, 0);
        read("1 to 1 to 3 to 8 to 8", four(1, new int[] {1, 3, 8, 8}), 3, 0, 3, 0);
        WidenedBanks x = four(5, new int[] {5, 6, 7, 8});
        x.writes(0, 0, 5, 0, 16777219);
        read("ROUNDED in 6, in the middle of its way", x, 3, 0, 7, 16777220);
    }

    private static WidenedBanks four(int bank, int[] kinds) {
        WidenedBanks x = new WidenedBanks();
        x.bank(bank, 1);
        for (int view = 0; view < 4; view++) {
            x.view(view == 0 ? 0 : 9 + view, 0, 1, 1, kinds[view]);
        }
        return x;
    }

    private static void nothingIsNotVoid() {
        for (int kind = 8; kind <= 10; kind++) {
            WidenedBanks x = pair(kind, 1, 8);
            read("NOTHING may be READ", x, 0, 0, NONE, 0);
        }
    }

    private static void refusedChangesNothing() {
        Asked rich = new Asked(States::rich);
        rich.stands("BAD: no such VIEW", BAD, x -> x.reads(7, 0));
        rich.stands("BAD: place", BAD, x -> x.reads(0, 12));
        rich.stands("OUT", OUT, x -> x.reads(1, 6));
        rich.stands("PAST", PAST, x -> x.reads(1, 5));
        rich.stands("GONE", GONE, x -> x.reads(6, 0));
        new Asked(States::full).stands("BARE", BARE, x -> x.reads(7, 0));
        Asked unlike = new Asked(() -> {
            WidenedBanks x = States.rich();
            x.view(0, 0, 1, 12, 3);
            return x;
        });
        unlike.stands("UNLIKE", UNLIKE, x -> x.reads(7, 0));
    }
}
