/** Promise 10: does, with what the Terms say of STEPS. */
public final class Promise10DoesTest extends Promise {
    private static final int MOVED = 0, SUM = 1, LESS = 2, GREATER = 3, SWAPPED = 4;

    public static void main(String[] args) {
        stepBounds();
        viewBounds();
        placeBounds();
        badAheadOfAll();
        movedByTheKindOfA();
        movedReadAheadOfWritten();
        movedOntoItself();
        sumsReadAThenB();
        sumsReadAheadOfVoidAndUnlike();
        sumsOfNothingAsFirst();
        sumsOfNamesAndOf0();
        sumsAreOfTheGreatestOf4AndBoth();
        kind4TheLowest32Bits();
        kind5AtTheEdge();
        kind6AtTheEdge();
        kind7AtTheEdge();
        roundedHalfway();
        bothBecomeNumbersOfThatKindFirst();
        theGreaterOne();
        wideAheadOfWritten();
        writtenBy8OrByItsKind();
        swappedInItsOrder();
        swappedRefusedByTheSecondWrite();
        swappedWithItself();
        swappedIsRounded();
        refusedChangesNothing();
        Due.end();
    }

    private static void stepBounds() {
        for (int step : new int[] {-1, 5, 6, MIN, MAX}) {
            due("a STEP (0 .. 4): " + step, row().does(step, 0, 1, 0, 2), BAD);
        }
        for (int step = 0; step <= 4; step++) {
            due("a STEP (0 .. 4): " + step, row().does(step, 0, 1, 0, 2), 0);
        }
    }

    private static void viewBounds() {
        for (int step = 0; step <= 4; step++) {
            for (int view : new int[] {-1, 1, 8, MIN, MAX}) {
                due("no such VIEW a: " + view, row().does(step, view, 0, 0, 0), BAD);
                due("no such VIEW b: " + view, row().does(step, 0, 0, view, 0), BAD);
            }
        }
    }

    private static void placeBounds() {
        for (int step = 0; step <= 4; step++) {
            for (int place : new int[] {-1, 12, 13, MIN, MAX}) {
                due("p (0 .. 11): " + place, row().does(step, 0, place, 0, 0), BAD);
                due("q (0 .. 11): " + place, row().does(step, 0, 0, 0, place), BAD);
            }
            for (int place : new int[] {0, 11}) {
                due("p (0 .. 11): " + place, row().does(step, 0, place, 0, 0), 0);
                due("q (0 .. 11): " + place, row().does(step, 0, 0, 0, place), 0);
            }
        }
    }

    private static void badAheadOfAll() {
        WidenedBanks x = new WidenedBanks();
        x.bank(11, 1);
        x.view(0, 0, 1, 1, 4);
        due("OUT", x.does(0, 0, 1, 0, 0), OUT);
        due("BAD ahead of OUT: q", x.does(0, 0, 1, 0, 12), BAD);
        due("BAD ahead of OUT: b", x.does(0, 0, 1, 1, 0), BAD);
        due("BAD ahead of OUT: STEP", x.does(5, 0, 1, 0, 0), BAD);
        due("GONE", x.does(0, 0, 0, 0, 0), GONE);
        due("BAD ahead of GONE: q", x.does(0, 0, 0, 0, -1), BAD);
    }

    private static void movedByTheKindOfA() {
        for (int a = 0; a <= 8; a++) {
            for (int b = 0; b <= 8; b++) {
                WidenedBanks x = pair(a, 1, a);
                x.bank(b, 1);
                x.view(1, 0, 1, 1, b);
                int want = a <= 7 && (b == 8 || !widens(a, b)) ? UNLIKE : a == 8 && b <= 7 ? VOID : 0;
                due("MOVED from " + a + " to " + b, x.does(MOVED, 0, 0, 1, 0), want);
            }
        }
        WidenedBanks y = pair(1, 1, 8);
        y.bank(8, 1);
        y.view(1, 0, 1, 1, 8);
        y.writes(0, 0, 1, 1, -128);
        due("from a VIEW of 8: BY 8", y.does(MOVED, 0, 0, 1, 0), 0);
        cell("a NUMBER of the BANK's KIND", y, 1, 0, 1, -128);
        y.writes(1, 0, 9, 1, 2);
        due("a NAME from 8 to 1", y.does(MOVED, 1, 0, 0, 0), UNLIKE);
        y.writes(1, 0, 1, 1, 5);
        due("a NUMBER of 1 from 8 to 1", y.does(MOVED, 1, 0, 0, 0), 0);
        cell("it is there", y, 0, 0, 1, 5);
    }

    /** BANKS 0 (KIND 4, 1 CELL), 1 GONE, 2 BARE, 3 (KIND 8, NOTHING). VIEW 0: OUT from 2 on, PAST at 1. VIEWS 1, 2, 3 of the others. */
    private static WidenedBanks refusing() {
        WidenedBanks x = new WidenedBanks();
        x.bank(4, 1);
        x.bank(11, 1);
        x.bank(12, 1);
        x.bank(8, 3);
        x.view(0, 0, 1, 2, 4);
        x.view(1, 0, 1, 2, 8);
        x.view(2, 0, 1, 2, 8);
        x.view(3, 0, 1, 3, 8);
        return x;
    }

    private static void movedReadAheadOfWritten() {
        WidenedBanks x = refusing();
        due("PAST of a ahead of OUT of b", x.does(MOVED, 0, 1, 0, 2), PAST);
        due("OUT of a ahead of PAST of b", x.does(MOVED, 0, 2, 0, 1), OUT);
        due("GONE of a ahead of OUT of b", x.does(MOVED, 1, 0, 0, 2), GONE);
        due("BARE of a ahead of GONE of b", x.does(MOVED, 2, 0, 1, 0), BARE);
        due("GONE of a ahead of BARE of b", x.does(MOVED, 1, 0, 2, 0), GONE);
        due("OUT of b", x.does(MOVED, 0, 0, 0, 2), OUT);
        due("PAST of b", x.does(MOVED, 0, 0, 0, 1), PAST);
        due("VOID at b, NOTHING of a", x.does(MOVED, 3, 0, 0, 0), VOID);
        due("OUT of b ahead of VOID at b", x.does(MOVED, 3, 0, 0, 2), OUT);
        due("VOID at b ahead of PAST of b", x.does(MOVED, 3, 0, 0, 1), VOID);
        due("BY 4 to a VIEW of 8: UNLIKE ahead of GONE beneath", x.does(MOVED, 0, 0, 1, 0), UNLIKE);
        due("BY 8 to GONE: ahead of VOID", x.does(MOVED, 3, 0, 1, 0), GONE);
        due("BY 8 to BARE: ahead of VOID", x.does(MOVED, 3, 0, 2, 0), BARE);
        due("nothing was done", x.count(5), 0);
    }

    private static void movedOntoItself() {
        WidenedBanks x = row();
        due("MOVED onto itself", x.does(MOVED, 0, 5, 0, 5), 0);
        cell("is the same", x, 0, 5, 4, 5);
        due("that was not refused", x.count(5), 1);
    }

    private static void sumsReadAThenB() {
        for (int step = SUM; step <= SWAPPED; step++) {
            WidenedBanks x = refusing();
            due("PAST of a ahead of OUT of b", x.does(step, 0, 1, 0, 2), PAST);
            due("OUT of a ahead of PAST of b", x.does(step, 0, 2, 0, 1), OUT);
            due("GONE of a ahead of BARE of b", x.does(step, 1, 0, 2, 0), GONE);
            due("BARE of a ahead of GONE of b", x.does(step, 2, 0, 1, 0), BARE);
            due("OUT of b", x.does(step, 0, 0, 0, 2), OUT);
            due("PAST of b", x.does(step, 0, 0, 0, 1), PAST);
            due("GONE of b", x.does(step, 0, 0, 1, 0), GONE);
            due("BARE of b", x.does(step, 0, 0, 2, 0), BARE);
        }
    }

    private static void sumsReadAheadOfVoidAndUnlike() {
        for (int step = SUM; step <= GREATER; step++) {
            WidenedBanks x = refusing();
            due("OUT of b ahead of VOID of a", x.does(step, 3, 0, 0, 2), OUT);
            due("PAST of b ahead of VOID of a", x.does(step, 3, 0, 0, 1), PAST);
            due("GONE of b ahead of VOID of a", x.does(step, 3, 0, 1, 0), GONE);
            due("BARE of b ahead of VOID of a", x.does(step, 3, 0, 2, 0), BARE);
            x.writes(3, 0, 9, 1, 1);
            due("OUT of b ahead of UNLIKE of a", x.does(step, 3, 0, 0, 2), OUT);
            x.writes(3, 0, 0, 1, 1);
            due("GONE of b ahead of UNLIKE of a, KIND 0", x.does(step, 3, 0, 1, 0), GONE);
        }
    }

    private static void sumsOfNothingAsFirst() {
        for (int step = SUM; step <= GREATER; step++) {
            WidenedBanks x = refusing();
            x.writes(3, 1, 9, 1, 1);
            x.writes(3, 2, 0, 1, 1);
            due("NOTHING of a", x.does(step, 3, 0, 0, 0), VOID);
            due("NOTHING of b", x.does(step, 0, 0, 3, 0), VOID);
            due("a's first: NOTHING, then a NAME", x.does(step, 3, 0, 3, 1), VOID);
            due("a's first: a NAME, then NOTHING", x.does(step, 3, 1, 3, 0), UNLIKE);
            due("a's first: NOTHING, then one of KIND 0", x.does(step, 3, 0, 3, 2), VOID);
            due("a's first: one of KIND 0, then NOTHING", x.does(step, 3, 2, 3, 0), UNLIKE);
            due("NOTHING twice", x.does(step, 3, 0, 3, 0), VOID);
        }
    }

    private static void sumsOfNamesAndOf0() {
        for (int step = SUM; step <= GREATER; step++) {
            WidenedBanks x = refusing();
            x.writes(3, 1, 9, 1, 1);
            x.writes(3, 2, 0, 1, 1);
            x.writes(3, 0, 4, 1, 1);
            due("a NAME of a", x.does(step, 3, 1, 3, 0), UNLIKE);
            due("a NAME of b", x.does(step, 3, 0, 3, 1), UNLIKE);
            due("a NUMBER of KIND 0 of a", x.does(step, 3, 2, 3, 0), UNLIKE);
            due("a NUMBER of KIND 0 of b", x.does(step, 3, 0, 3, 2), UNLIKE);
            due("KIND 0 and KIND 0", pair(0, 2, 0).does(step, 0, 0, 0, 1), UNLIKE);
        }
    }

    private static void sumsAreOfTheGreatestOf4AndBoth() {
        for (int a = 1; a <= 7; a++) {
            for (int b = 1; b <= 7; b++) {
                for (int step = SUM; step <= GREATER; step++) {
                    WidenedBanks x = pair(8, 2, 8);
                    x.writes(0, 0, a, 1, 3);
                    x.writes(0, 1, b, 1, 5);
                    due("STEP " + step + " of " + a + " and " + b, x.does(step, 0, 0, 0, 1), 0);
                    cell("of the greatest of 4 and both", x, 0, 1, Math.max(4, Math.max(a, b)), step == SUM ? 8 : step == LESS ? 2 : 5);
                    cell("a's is let be", x, 0, 0, a, 3);
                }
            }
        }
    }

    /** a's NUMBER and b's of KINDS, in CELLS of KIND 8: what the STEP answers, and what b has then. */
    private static void reckons(int step, int kindA, long a, int kindB, long b, int answer, int kind, long number) {
        String what = "STEP " + step + " of " + kindA + ": " + a + " and " + kindB + ": " + b;
        WidenedBanks x = pair(8, 2, 8);
        due(what, x.writes(0, 0, kindA, 1, a), 0);
        due(what, x.writes(0, 1, kindB, 1, b), 0);
        due(what, x.does(step, 0, 0, 0, 1), answer);
        cell(what, x, 0, 1, kind, number);
        cell(what + ", a's is let be", x, 0, 0, kindA, a);
        due(what, x.count(5), answer == 0 ? 3 : 2);
    }

    private static void well(int step, int kind, long a, long b, long want) {
        reckons(step, kind, a, kind, b, 0, kind, want);
    }

    private static void wide(int step, int kind, long a, long b) {
        reckons(step, kind, a, kind, b, WIDE, kind, b);
    }

    private static void kind4TheLowest32Bits() {
        well(SUM, 4, 1, MAX - 1, MAX);
        well(SUM, 4, 1, MAX, MIN);
        well(SUM, 4, MAX, MAX, -2);
        well(SUM, 4, -1, MIN + 1, MIN);
        well(SUM, 4, -1, MIN, MAX);
        well(SUM, 4, MIN, MIN, 0);
        well(LESS, 4, 1, MIN + 1, MIN);
        well(LESS, 4, 1, MIN, MAX);
        well(LESS, 4, -1, MAX, MIN);
        well(LESS, 4, MIN, 0, MIN);
        well(LESS, 4, MIN, MAX, -1);
        well(LESS, 4, MAX, MIN, 1);
        well(GREATER, 4, MIN, MAX, MAX);
        reckons(SUM, 2, 65535, 4, MAX, 0, 4, MIN + 65534);
        reckons(SUM, 1, 127, 1, 127, 0, 4, 254);
        reckons(SUM, 2, 65535, 2, 65535, 0, 4, 131070);
        reckons(LESS, 2, 65535, 2, 0, 0, 4, -65535);
        reckons(LESS, 3, 32767, 3, -32768, 0, 4, -65535);
    }

    private static void kind5AtTheEdge() {
        well(SUM, 5, 1, EDGE - 1, EDGE);
        well(SUM, 5, 0, EDGE, EDGE);
        wide(SUM, 5, 1, EDGE);
        wide(SUM, 5, EDGE, EDGE);
        well(SUM, 5, -1, 1 - EDGE, -EDGE);
        wide(SUM, 5, -1, -EDGE);
        wide(SUM, 5, -EDGE, -EDGE);
        well(SUM, 5, EDGE, -EDGE, 0);
        well(LESS, 5, -1, EDGE - 1, EDGE);
        wide(LESS, 5, -1, EDGE);
        well(LESS, 5, 1, 1 - EDGE, -EDGE);
        wide(LESS, 5, 1, -EDGE);
        wide(LESS, 5, EDGE, -EDGE);
        wide(LESS, 5, -EDGE, EDGE);
        well(LESS, 5, EDGE, EDGE, 0);
        well(GREATER, 5, EDGE, -EDGE, EDGE);
        well(GREATER, 5, -EDGE, -EDGE, -EDGE);
        well(SUM, 5, MAX, MAX, 2L * MAX);
        reckons(SUM, 4, 1, 5, EDGE, WIDE, 5, EDGE);
        reckons(SUM, 5, EDGE, 4, 1, WIDE, 4, 1);
    }

    private static void kind6AtTheEdge() {
        // Beyond 2^60 numbers of 24 digits lie 2^37 apart, before it 2^36.
        well(SUM, 6, 1, EDGE, EDGE);
        well(SUM, 6, 3L << 34, EDGE, EDGE);
        well(SUM, 6, 1L << 36, EDGE, EDGE);
        wide(SUM, 6, (1L << 36) + (1L << 13), EDGE);
        wide(SUM, 6, 1L << 37, EDGE);
        wide(SUM, 6, EDGE, EDGE);
        well(SUM, 6, -1, -EDGE, -EDGE);
        well(SUM, 6, -(3L << 34), -EDGE, -EDGE);
        well(SUM, 6, -(1L << 36), -EDGE, -EDGE);
        wide(SUM, 6, -(1L << 36) - (1L << 13), -EDGE);
        wide(SUM, 6, -(1L << 37), -EDGE);
        well(LESS, 6, 1L << 36, -EDGE, -EDGE);
        wide(LESS, 6, (1L << 36) + (1L << 13), -EDGE);
        well(LESS, 6, -(1L << 36), EDGE, EDGE);
        wide(LESS, 6, -(1L << 37), EDGE);
        wide(LESS, 6, EDGE, -EDGE);
        well(GREATER, 6, EDGE, -EDGE, EDGE);
    }

    private static void kind7AtTheEdge() {
        // Beyond 2^60 numbers of 53 digits lie 256 apart, before it 128.
        well(SUM, 7, 1, EDGE, EDGE);
        well(SUM, 7, 96, EDGE, EDGE);
        well(SUM, 7, 128, EDGE, EDGE);
        wide(SUM, 7, 129, EDGE);
        wide(SUM, 7, 256, EDGE);
        well(SUM, 7, -128, -EDGE, -EDGE);
        wide(SUM, 7, -129, -EDGE);
        well(LESS, 7, 128, -EDGE, -EDGE);
        wide(LESS, 7, 129, -EDGE);
        well(LESS, 7, -128, EDGE, EDGE);
        wide(LESS, 7, -129, EDGE);
        wide(SUM, 7, EDGE, EDGE);
        well(GREATER, 7, -EDGE, EDGE, EDGE);
        reckons(SUM, 5, 129, 7, EDGE, WIDE, 7, EDGE);
        reckons(SUM, 6, 1L << 37, 7, EDGE, WIDE, 7, EDGE);
    }

    private static void roundedHalfway() {
        long two24 = 1L << 24;
        well(SUM, 6, 1, two24, two24);
        well(SUM, 6, 3, two24, two24 + 4);
        well(SUM, 6, 1, two24 + 2, two24 + 4);
        well(SUM, 6, -1, -two24, -two24);
        well(SUM, 6, -3, -two24, -two24 - 4);
        well(LESS, 6, 1, two24 + 4, two24 + 4);
        well(LESS, 6, 1, two24 + 6, two24 + 4);
        well(LESS, 6, 1, two24, two24 - 1);
        long two53 = 1L << 53;
        well(SUM, 7, 1, two53, two53);
        well(SUM, 7, 3, two53, two53 + 4);
        well(LESS, 7, 1, two53 + 2, two53);
        well(LESS, 7, 1, two53 + 4, two53 + 4);
        well(SUM, 7, -3, -two53, -two53 - 4);
    }

    private static void bothBecomeNumbersOfThatKindFirst() {
        long two24 = 1L << 24;
        // 2^24 + 1 of KIND 5 is 2^24 in KIND 6; 2^24 + 3 is 2^24 + 4.
        reckons(SUM, 5, two24 + 1, 6, 1, 0, 6, two24);
        reckons(LESS, 5, two24 + 1, 6, two24, 0, 6, 0);
        reckons(LESS, 5, two24 + 3, 6, two24, 0, 6, -4);
        reckons(LESS, 6, two24, 5, two24 + 3, 0, 6, 4);
        reckons(GREATER, 5, two24 + 1, 6, two24, 0, 6, two24);
        reckons(GREATER, 5, two24 + 3, 6, 0, 0, 6, two24 + 4);
        reckons(GREATER, 6, 0, 5, two24 + 3, 0, 6, two24 + 4);
        reckons(LESS, 4, MAX, 6, 0, 0, 6, -(1L << 31));
        reckons(LESS, 5, (1L << 53) + 1, 7, 1L << 53, 0, 7, 0);
        reckons(LESS, 6, two24, 7, two24 + 1, 0, 7, 1);
    }

    private static void theGreaterOne() {
        well(GREATER, 4, 3, 5, 5);
        well(GREATER, 4, 5, 3, 5);
        well(GREATER, 4, -5, -3, -3);
        well(GREATER, 4, 7, 7, 7);
        reckons(GREATER, 1, -1, 2, 0, 0, 4, 0);
        reckons(GREATER, 1, -1, 5, -2, 0, 5, -1);
    }

    private static void wideAheadOfWritten() {
        WidenedBanks x = new WidenedBanks();
        x.bank(5, 2);
        x.bank(4, 2);
        x.view(0, 0, 1, 2, 5);
        x.view(1, 0, 1, 2, 5);
        x.view(1, 0, 1, 2, 4);
        x.writes(2, 0, 4, 0, 1);
        due("UNLIKE where it is WRITTEN: 5 to 4", x.does(SUM, 0, 0, 1, 0), UNLIKE);
        x.writes(0, 0, 5, 0, EDGE);
        due("WIDE ahead of that", x.does(SUM, 0, 0, 1, 0), WIDE);
        cell("nothing changed", x, 1, 0, 4, 1);
    }

    private static void writtenBy8OrByItsKind() {
        WidenedBanks x = pair(3, 2, 3);
        due("3 and 3 make one of 4, which is not one of 3", x.does(SUM, 0, 0, 0, 1), UNLIKE);
        WidenedBanks y = pair(3, 2, 8);
        due("likewise BY 8", y.does(SUM, 0, 0, 0, 1), UNLIKE);
        WidenedBanks z = pair(10, 2, 8);
        z.writes(0, 0, 4, 1, 6);
        z.writes(0, 1, 4, 1, 7);
        due("one of KIND 4 BY 8 to 10", z.does(SUM, 0, 0, 0, 1), 0);
        cell("it is there", z, 0, 1, 4, 13);
        z.bank(5, 1);
        z.view(1, 0, 1, 1, 5);
        due("one of KIND 5 BY 8 to 10", z.does(SUM, 1, 0, 0, 1), UNLIKE);
        due("one of KIND 5 BY 5 to 5", z.does(SUM, 0, 1, 1, 0), 0);
        cell("it is there", z, 1, 0, 5, 13);
        WidenedBanks w = pair(4, 2, 4);
        w.bank(4, 1);
        w.view(1, 0, 1, 1, 8);
        w.writes(0, 0, 4, 0, 6);
        due("one of KIND 4 BY 8 to 4", w.does(SUM, 0, 0, 1, 0), 0);
        cell("it is there", w, 1, 0, 4, 6);
        WidenedBanks v = pair(4, 1, 5);
        v.view(0, 0, 1, 1, 4);
        due("READ as 5, so WRITTEN as 5: to 5, that hands it to 4", v.does(SUM, 1, 0, 0, 0), UNLIKE);
        due("READ as 5 and as 4, WRITTEN BY 5 to 4", v.does(SUM, 0, 0, 1, 0), UNLIKE);
        WidenedBanks u = pair(7, 1, 7);
        u.bank(4, 1);
        u.view(1, 0, 1, 1, 4);
        due("4 and 7 into 7", u.does(SUM, 1, 0, 0, 0), 0);
        due("7 and 4 into 4", u.does(SUM, 0, 0, 1, 0), UNLIKE);
    }

    private static void swappedInItsOrder() {
        // A CELL of 4 and one of NAMES that has NOTHING: 4 to NAMES is UNLIKE, NOTHING to 4 is VOID.
        WidenedBanks x = pair(4, 1, 8);
        x.bank(9, 1);
        x.view(1, 0, 1, 1, 8);
        due("what a had through b first: UNLIKE", x.does(SWAPPED, 0, 0, 1, 0), UNLIKE);
        due("what a had through b first: VOID", x.does(SWAPPED, 1, 0, 0, 0), VOID);
        WidenedBanks y = pair(8, 2, 8);
        y.writes(0, 0, 9, 1, 3);
        y.writes(0, 1, 5, 1, EDGE);
        due("any with any", y.does(SWAPPED, 0, 0, 0, 1), 0);
        cell("what b had", y, 0, 0, 5, EDGE);
        cell("what a had", y, 0, 1, 9, 3);
        WidenedBanks z = pair(0, 2, 0);
        z.writes(0, 0, 0, 0, 1);
        due("KIND 0 may be SWAPPED", z.does(SWAPPED, 0, 0, 0, 1), 0);
        cells("KIND 0", z, 0, 0, 1);
        WidenedBanks w = pair(4, 1, 4);
        w.bank(8, 1);
        w.view(1, 0, 1, 1, 8);
        w.writes(1, 0, 4, 1, 1);
        due("BY the KIND of a: 4 to 8", w.does(SWAPPED, 0, 0, 1, 0), UNLIKE);
        due("BY the KIND of b: 4 to 8, last", w.does(SWAPPED, 1, 0, 0, 0), UNLIKE);
        cell("nothing changed", w, 0, 0, 4, 0);
        cell("nothing changed", w, 1, 0, 4, 1);
    }

    private static void swappedRefusedByTheSecondWrite() {
        WidenedBanks x = pair(3, 1, 3);
        x.bank(5, 1);
        x.view(1, 0, 1, 1, 5);
        x.writes(0, 0, 3, 0, 33);
        x.writes(1, 0, 5, 0, 55);
        due("3 to 5, then 5 to 3", x.does(SWAPPED, 0, 0, 1, 0), UNLIKE);
        cell("a STEP that is refused changes nothing", x, 0, 0, 3, 33);
        cell("a STEP that is refused changes nothing", x, 1, 0, 5, 55);
        due("and is not known", x.count(5), 2);
    }

    private static void swappedWithItself() {
        WidenedBanks x = row();
        due("one CELL", x.does(SWAPPED, 0, 7, 0, 7), 0);
        cell("is the same", x, 0, 7, 4, 7);
        WidenedBanks y = pair(3, 1, 3);
        y.view(0, 0, 1, 1, 4);
        due("READ as 4, that is none of 3", y.does(SWAPPED, 0, 0, 1, 0), UNLIKE);
    }

    private static void swappedIsRounded() {
        WidenedBanks x = new WidenedBanks();
        x.bank(5, 1);
        x.bank(8, 1);
        x.view(0, 0, 1, 1, 8);
        x.view(1, 0, 1, 1, 8);
        x.writes(0, 0, 5, 1, 16777217);
        x.writes(1, 0, 4, 1, 3);
        due("5 and 4 BY 8", x.does(SWAPPED, 0, 0, 1, 0), 0);
        cell("4 is one of 5 then", x, 0, 0, 5, 3);
        cell("5 as it was", x, 1, 0, 5, 16777217);
        WidenedBanks y = pair(6, 2, 6);
        y.bank(6, 1);
        y.view(1, 0, 1, 1, 6);
        y.writes(0, 0, 6, 0, 16777220);
        due("6 and 6", y.does(SWAPPED, 0, 0, 1, 0), 0);
        cell("as it was", y, 1, 0, 6, 16777220);
    }

    private static void refusedChangesNothing() {
        Asked full = new Asked(States::full);
        full.stands("BAD: STEP", BAD, x -> x.does(5, 0, 0, 0, 1));
        full.stands("BAD: a", BAD, x -> x.does(0, 8, 0, 0, 1));
        full.stands("BAD: p", BAD, x -> x.does(0, 0, 12, 0, 1));
        full.stands("BAD: b", BAD, x -> x.does(0, 0, 0, -1, 1));
        full.stands("BAD: q", BAD, x -> x.does(0, 0, 0, 0, 12));
        full.stands("OUT", OUT, x -> x.does(0, 0, 0, 1, 6));
        full.stands("GONE", GONE, x -> x.does(0, 6, 0, 0, 1));
        full.stands("BARE", BARE, x -> x.does(4, 0, 0, 7, 0));
        full.stands("UNLIKE", UNLIKE, x -> x.does(0, 0, 0, 2, 3));
        full.stands("UNLIKE: the second write of SWAPPED", UNLIKE, x -> x.does(4, 0, 0, 5, 1));
        full.stands("PAST", PAST, x -> x.does(1, 5, 1, 5, 0));
        full.stands("VOID", VOID, x -> x.does(1, 1, 4, 0, 0));
        full.stands("WIDE", WIDE, x -> x.does(1, 5, 1, 5, 1));
    }
}
