/** Promise 25: safe, with what the Terms say of SAFE. */
public final class Promise25SafeTest extends Promise {
    public static void main(String[] args) {
        viewBounds();
        ontoItself();
        oneOnAndOneBack();
        oneCellOfBoth();
        atTheSamePlaceIsNotBefore();
        turnedRound();
        placesOfTheLesserCountAlone();
        order1NoTwoOfBsPlacesAreOneCell();
        onlyAmongPlacesBelowN();
        twoOfAsPlacesMayBeOneCell();
        order0MayWriteOneCellTwice();
        pastIsNoCell();
        outIsNoCell();
        goneAndBareHaveNoCells();
        asPlacesTellWhateverKinds();
        onePlace();
        asCopiesShow();
        refusedChangesNothing();
        Due.end();
    }

    private static void viewBounds() {
        for (int view : new int[] {-1, 1, 8, MIN, MAX}) {
            due("no such VIEW a: " + view, row().safe(view, 0), BAD);
            due("no such VIEW b: " + view, row().safe(0, view), BAD);
        }
    }

    /** VIEWS 1 and 2 of row(): FROM, STEP, COUNT of each. */
    private static WidenedBanks two(int fromA, int stepA, int countA, int fromB, int stepB, int countB) {
        WidenedBanks x = row();
        x.view(0, fromA, stepA, countA, 4);
        x.view(0, fromB, stepB, countB, 4);
        return x;
    }

    private static void safe(String sentence, WidenedBanks x, int want) {
        due(sentence, x.safe(1, 2), want);
    }

    private static void ontoItself() {
        due("onto itself: each place is READ before it is WRITTEN", row().safe(0, 0), 3);
        safe("another VIEW of the same places", two(2, 1, 5, 2, 1, 5), 3);
        safe("side by side", two(0, 1, 6, 6, 1, 6), 3);
    }

    private static void oneOnAndOneBack() {
        safe("one on", two(0, 1, 6, 1, 1, 6), 2);
        safe("one back", two(1, 1, 6, 0, 1, 6), 1);
        safe("one on, two places", two(0, 1, 2, 1, 1, 2), 2);
    }

    private static void oneCellOfBoth() {
        // CELL 5 is READ at 5 and WRITTEN at 0.
        safe("WRITTEN at 0, READ at the last", two(0, 1, 6, 5, 1, 6), 2);
        // CELL 5 is READ at 0 and WRITTEN at 5.
        safe("READ at 0, WRITTEN at the last", two(5, 1, 6, 0, 1, 6), 1);
    }

    private static void atTheSamePlaceIsNotBefore() {
        // CELL 2 is place 2 of both, no other CELL is of both.
        safe("READ and WRITTEN at one place", two(0, 1, 3, 6, -2, 3), 3);
    }

    private static void turnedRound() {
        safe("turned round", two(0, 1, 4, 3, -1, 4), 0);
        safe("turned round, 2 places", two(0, 1, 2, 1, -1, 2), 0);
    }

    private static void placesOfTheLesserCountAlone() {
        // CELL 3 is WRITTEN at place 0, and READ at place 3 if a has one that counts.
        safe("a has 4, b has 4", two(0, 1, 4, 3, 1, 4), 2);
        safe("a has 3", two(0, 1, 3, 3, 1, 4), 3);
        safe("b has 3", two(0, 1, 4, 3, 1, 3), 3);
        // CELL 3 is READ at place 0, and WRITTEN at place 3.
        safe("a has 4, b has 4", two(3, 1, 4, 0, 1, 4), 1);
        safe("a has 3", two(3, 1, 3, 0, 1, 4), 3);
        safe("b has 3", two(3, 1, 4, 0, 1, 3), 3);
    }

    private static void order1NoTwoOfBsPlacesAreOneCell() {
        safe("two of b's places", two(0, 1, 2, 8, 0, 2), 1);
        safe("12 of b's places", two(0, 0, 12, 8, 0, 12), 1);
        WidenedBanks x = row();
        x.bank(4, 12);
        x.view(1, 0, 0, 3, 4);
        due("of another BANK", x.safe(0, 1), 1);
    }

    private static void onlyAmongPlacesBelowN() {
        safe("n is 1: b's second place does not count", two(0, 1, 1, 8, 0, 12), 3);
        safe("n is 2", two(0, 1, 2, 8, 0, 12), 1);
        WidenedBanks x = row();
        x.view(0, 4, -1, 4, 4);
        x.bank(4, 12);
        x.view(1, 0, 1, 12, 4);
        due("b's places are apart", x.safe(1, 2), 3);
    }

    private static void twoOfAsPlacesMayBeOneCell() {
        safe("all READ from one CELL", two(8, 0, 4, 0, 1, 4), 3);
        safe("all READ from the CELL that is WRITTEN at 0", two(0, 0, 4, 0, 1, 4), 2);
        safe("all READ from the CELL that is WRITTEN at the last", two(3, 0, 4, 0, 1, 4), 1);
    }

    private static void order0MayWriteOneCellTwice() {
        safe("one CELL twice, never READ", two(0, 1, 4, 8, 0, 4), 1);
        safe("one CELL twice, READ at 0", two(0, 1, 4, 0, 0, 4), 1);
        safe("one CELL twice, READ at 1", two(0, 1, 4, 1, 0, 4), 0);
        safe("one CELL for both", two(5, 0, 3, 5, 0, 3), 0);
    }

    private static void pastIsNoCell() {
        // b: places 0 .. 2 are PAST, 3 is CELL 0, which a READS at 0 (and at no other place).
        safe("WRITTEN only at 3", two(0, 1, 4, -3, 1, 4), 1);
        safe("all PAST", two(12, 0, 4, 12, 0, 4), 3);
        safe("b's places are all PAST", two(0, 1, 4, 20, 0, 4), 3);
        safe("a's places are all PAST", two(-1, 0, 4, 0, 1, 4), 3);
        safe("b's places are PAST but for one", two(8, 1, 4, 11, 3, 4), 2);
    }

    private static void outIsNoCell() {
        WidenedBanks x = row();
        x.view(0, 4, 1, 1, 4);
        x.view(11, 1, 0, 4, 4);
        x.view(0, 5, 0, 4, 4);
        due("b is OUT beneath at all places", x.safe(3, 2), 3);
        due("a is OUT beneath at all places", x.safe(2, 0), 3);
    }

    private static void goneAndBareHaveNoCells() {
        for (int bank = 11; bank <= 12; bank++) {
            WidenedBanks x = new WidenedBanks();
            x.bank(bank, 12);
            x.view(0, 0, 0, 12, 8);
            due("no CELLS", x.safe(0, 0), 3);
        }
    }

    private static void asPlacesTellWhateverKinds() {
        WidenedBanks x = new WidenedBanks();
        x.bank(4, 6);
        x.view(0, 0, 1, 5, 0);
        x.view(0, 1, 1, 5, 8);
        due("all are refused, and yet", x.safe(0, 1), 2);
        due("all are refused, and yet", x.safe(1, 0), 1);
    }

    private static void onePlace() {
        safe("one place, one CELL", two(3, 1, 1, 3, 1, 1), 3);
        safe("one place each", two(3, 1, 1, 4, 1, 1), 3);
    }

    /** Each two of many VIEWS, told once more: what was WRITTEN before is not READ. */
    private static void asCopiesShow() {
        int[][] views = {{0, 1, 12}, {1, 1, 11}, {11, -1, 12}, {0, 2, 6}, {0, 3, 5}, {6, 0, 3}, {-2, 1, 12}, {9, -3, 7}};
        WidenedBanks x = new WidenedBanks();
        x.bank(4, 12);
        for (int[] v : views) {
            x.view(0, v[0], v[1], v[2], 4);
        }
        for (int a = 0; a < 8; a++) {
            for (int b = 0; b < 8; b++) {
                due("safe(" + a + ", " + b + ")", x.safe(a, b), (upward(views[a], views[b]) ? 1 : 0) + (downward(views[a], views[b]) ? 2 : 0));
            }
        }
    }

    private static int at(int[] view, int place) {
        return view[0] + view[1] * place;
    }

    private static boolean oneCell(int one, int other) {
        return one == other && one >= 0 && one < 12;
    }

    private static boolean upward(int[] a, int[] b) {
        for (int later = 0; later < Math.min(a[2], b[2]); later++) {
            for (int before = 0; before < later; before++) {
                if (oneCell(at(a, later), at(b, before))) {
                    return false;
                }
            }
        }
        return true;
    }

    private static boolean downward(int[] a, int[] b) {
        for (int before = Math.min(a[2], b[2]) - 1; before >= 0; before--) {
            for (int later = before - 1; later >= 0; later--) {
                if (oneCell(at(a, later), at(b, before)) || oneCell(at(b, later), at(b, before))) {
                    return false;
                }
            }
        }
        return true;
    }

    private static void refusedChangesNothing() {
        Asked rich = new Asked(States::rich);
        rich.stands("BAD: a", BAD, x -> x.safe(-1, 0));
        rich.stands("BAD: b", BAD, x -> x.safe(0, 7));
    }
}
