/** Promise 11: copies. */
public final class Promise11CopiesTest extends Promise {
    public static void main(String[] args) {
        viewBounds();
        orderBounds();
        theLesserCount();
        order0From0On();
        order1FromTheLastOneDown();
        order2AllAreReadFirst();
        intoOneCell();
        movedByTheKindOfA();
        whatIsRefusedIsSkipped();
        allSkipped();
        placesOutAndPast();
        goneAndBare();
        order2SkipsAtBothTimes();
        order2WritesOnlyWhatItRead();
        itIsUndoneAsOne();
        refusedChangesNothing();
        Due.end();
    }

    private static void viewBounds() {
        for (int order = 0; order <= 2; order++) {
            for (int view : new int[] {-1, 1, 8, MIN, MAX}) {
                due("no such VIEW a: " + view, row().copies(view, 0, order), BAD);
                due("no such VIEW b: " + view, row().copies(0, view, order), BAD);
            }
        }
    }

    private static void orderBounds() {
        for (int order : new int[] {-1, 3, MIN, MAX}) {
            due("order (0 .. 2): " + order, row().copies(0, 0, order), BAD);
        }
        for (int order = 0; order <= 2; order++) {
            due("order (0 .. 2): " + order, row().copies(0, 0, order), 0);
        }
    }

    private static void theLesserCount() {
        for (int order = 0; order <= 2; order++) {
            WidenedBanks x = row();
            x.bank(4, 12);
            x.view(0, 1, 1, 3, 4);
            x.view(1, 0, 1, 5, 4);
            x.view(1, 0, 1, 2, 4);
            due("a has fewer", x.copies(1, 2, order), 0);
            cells("3 places", x, 1, 1, 2, 3, 0, 0);
            due("b has fewer", x.copies(0, 3, order), 0);
            cells("2 places", x, 1, 0, 1, 3, 0, 0);
            x.view(1, 4, 1, 1, 4);
            due("one place", x.copies(1, 4, order), 0);
            cells("one place", x, 1, 0, 1, 3, 0, 1, 0);
        }
        for (int order = 0; order <= 2; order++) {
            WidenedBanks x = row();
            x.bank(4, 12);
            x.view(1, 11, -1, 12, 4);
            due("12 places", x.copies(0, 1, order), 0);
            cells("12 places", x, 1, 11, 10, 9, 8, 7, 6, 5, 4, 3, 2, 1, 0);
        }
    }

    /** VIEW 1: places 1 .. 6 of row(), VIEW 2: places 2 .. 7. */
    private static WidenedBanks overlapping() {
        WidenedBanks x = row();
        x.view(0, 1, 1, 6, 4);
        x.view(0, 2, 1, 6, 4);
        return x;
    }

    private static void order0From0On() {
        WidenedBanks x = overlapping();
        due("upward", x.copies(1, 2, 0), 0);
        cells("upward: the first is carried on", x, 0, 0, 1, 1, 1, 1, 1, 1, 1, 8, 9, 10, 11);
        WidenedBanks y = overlapping();
        due("downward", y.copies(2, 1, 0), 0);
        cells("downward", y, 0, 0, 2, 3, 4, 5, 6, 7, 7, 8, 9, 10, 11);
    }

    private static void order1FromTheLastOneDown() {
        WidenedBanks x = overlapping();
        due("upward", x.copies(1, 2, 1), 0);
        cells("upward", x, 0, 0, 1, 1, 2, 3, 4, 5, 6, 8, 9, 10, 11);
        WidenedBanks y = overlapping();
        due("downward", y.copies(2, 1, 1), 0);
        cells("downward: the last is carried on", y, 0, 0, 7, 7, 7, 7, 7, 7, 7, 8, 9, 10, 11);
    }

    private static void order2AllAreReadFirst() {
        WidenedBanks x = overlapping();
        due("upward", x.copies(1, 2, 2), 0);
        cells("upward", x, 0, 0, 1, 1, 2, 3, 4, 5, 6, 8, 9, 10, 11);
        WidenedBanks y = overlapping();
        due("downward", y.copies(2, 1, 2), 0);
        cells("downward", y, 0, 0, 2, 3, 4, 5, 6, 7, 7, 8, 9, 10, 11);
        WidenedBanks z = row();
        z.view(0, 11, -1, 12, 4);
        due("turned round", z.copies(0, 1, 2), 0);
        cells("turned round", z, 0, 11, 10, 9, 8, 7, 6, 5, 4, 3, 2, 1, 0);
        WidenedBanks w = row();
        w.view(0, 11, -1, 12, 4);
        due("turned round, order 0", w.copies(0, 1, 0), 0);
        cells("turned round, order 0", w, 0, 0, 1, 2, 3, 4, 5, 5, 4, 3, 2, 1, 0);
    }

    private static void intoOneCell() {
        for (int order = 0; order <= 2; order++) {
            WidenedBanks x = row();
            x.bank(4, 1);
            x.view(1, 0, 0, 12, 4);
            due("into one CELL, order " + order, x.copies(0, 1, order), 0);
            cell("the latest WRITTEN, order " + order, x, 1, 0, 4, order == 1 ? 0 : 11);
        }
    }

    private static void movedByTheKindOfA() {
        for (int order = 0; order <= 2; order++) {
            WidenedBanks x = pair(8, 1, 8);
            x.bank(4, 1);
            x.view(1, 0, 1, 1, 4);
            due("BY 4 to 8", x.copies(1, 0, order), 1);
            x.view(1, 0, 1, 1, 8);
            due("BY 8 to 8", x.copies(2, 0, order), 0);
            cell("a NUMBER of 4", x, 0, 0, 4, 0);
        }
    }

    private static void whatIsRefusedIsSkipped() {
        for (int order = 0; order <= 2; order++) {
            WidenedBanks x = pair(8, 12, 8);
            x.bank(4, 12);
            x.view(1, 0, 1, 12, 4);
            for (int place = 0; place < 12; place++) {
                int thing = place % 3 == 0 ? 4 : place % 3 == 1 ? 9 : 10;
                x.writes(0, place, thing, 1, place % 10);
            }
            // WELL at 0, 3, 6, 9; UNLIKE and VOID elsewhere.
            due("those places (bits), order " + order, x.copies(0, 1, order), 4095 & ~(1 + 8 + 64 + 512));
            cells("the others are MOVED", x, 1, 0, 0, 0, 3, 0, 0, 6, 0, 0, 9, 0, 0);
        }
    }

    private static void allSkipped() {
        for (int order = 0; order <= 2; order++) {
            WidenedBanks x = row();
            x.view(0, 0, 1, 12, 3);
            due("UNLIKE at all 12 places", x.copies(1, 0, order), 4095);
            due("that is no refused call", x.count(5), 1);
            due("UNLIKE where it is WRITTEN", x.copies(0, 1, order), 4095);
            cells("nothing changed", x, 0, 0, 1, 2, 3, 4, 5, 6, 7, 8, 9, 10, 11);
        }
    }

    private static void placesOutAndPast() {
        for (int order = 0; order <= 2; order++) {
            WidenedBanks x = row();
            x.bank(4, 12);
            x.view(1, 0, 1, 12, 4);
            x.view(0, -1, 1, 12, 4);
            due("PAST at place 0 of a", x.copies(2, 1, order), 1);
            x.view(0, 1, 1, 12, 4);
            due("PAST at place 11 of a", x.copies(3, 1, order), 2048);
            x.view(13, -1, 3, 12, 4);
            // VIEW 4 at k is VIEW 3 at 3k - 1: OUT at 0 and from 5 on; at 4 it is 11, PAST.
            due("OUT, PAST of a", x.copies(4, 1, order), 4095 & ~(2 + 4 + 8));
            x.view(11, 10, 1, 12, 4);
            due("OUT of b", x.copies(0, 5, order), 4095 & ~3);
        }
    }

    private static void goneAndBare() {
        for (int order = 0; order <= 2; order++) {
            WidenedBanks x = row();
            x.bank(11, 1);
            x.bank(12, 1);
            x.view(1, 0, 1, 3, 4);
            x.view(2, 0, 1, 2, 4);
            due("from GONE", x.copies(1, 0, order), 7);
            due("to GONE", x.copies(0, 1, order), 7);
            due("from BARE", x.copies(2, 0, order), 3);
            due("to BARE", x.copies(0, 2, order), 3);
            cells("nothing changed", x, 0, 0, 1, 2, 3, 4, 5, 6, 7, 8, 9, 10, 11);
        }
    }

    private static void order2SkipsAtBothTimes() {
        WidenedBanks x = row();
        x.view(0, -1, 1, 12, 4);
        x.view(0, 1, 1, 12, 4);
        // READ is PAST at place 0, WRITTEN is PAST at place 11.
        due("skipped as it is READ, and as it is WRITTEN", x.copies(1, 2, 2), 1 + 2048);
        cells("two places on", x, 0, 0, 1, 0, 1, 2, 3, 4, 5, 6, 7, 8, 9);
    }

    /** What an earlier copies() READ at a place must not be WRITTEN where this one READS nothing. */
    private static void order2WritesOnlyWhatItRead() {
        WidenedBanks x = row();
        x.bank(4, 12);
        x.view(1, 0, 1, 12, 4);
        due("all 12", x.copies(0, 1, 2), 0);
        x.view(0, -1, 2, 12, 4);
        x.bank(4, 12);
        x.view(2, 0, 1, 12, 4);
        // Place 0 is PAST, 1 .. 6 are CELLS 1, 3, .. 11, the others are PAST.
        due("PAST at 0 and from 7 on", x.copies(2, 3, 2), 4095 & ~126);
        cells("these are let be", x, 2, 0, 1, 3, 5, 7, 9, 11, 0, 0, 0, 0, 0);
    }

    private static void itIsUndoneAsOne() {
        for (int order = 0; order <= 2; order++) {
            WidenedBanks x = overlapping();
            x.copies(1, 2, order);
            due("one", x.count(5), 1);
            due("UNDONE", x.undo(), 0);
            cells("as one", x, 0, 0, 1, 2, 3, 4, 5, 6, 7, 8, 9, 10, 11);
        }
    }

    private static void refusedChangesNothing() {
        Asked full = new Asked(States::full);
        full.stands("BAD: a", BAD, x -> x.copies(8, 0, 0));
        full.stands("BAD: b", BAD, x -> x.copies(0, -1, 0));
        full.stands("BAD: order", BAD, x -> x.copies(0, 0, 3));
        full.stands("BAD: order", BAD, x -> x.copies(0, 0, -1));
    }
}
