/** Promise 3: view, with what the Terms say of VIEWS. */
public final class Promise03ViewTest extends Promise {
    public static void main(String[] args) {
        ofBankBounds();
        ofViewBounds();
        fromBounds();
        stepBounds();
        countBounds();
        kindBounds();
        itsNumber();
        full8();
        fullAFifthUpon();
        badAheadOfFull();
        placeIsFromAndStepTimes();
        fromBelow0();
        stepBelow0();
        step0();
        downToAPlaceOfTheBank();
        refusedChangesNothing();
        Due.end();
    }

    private static WidenedBanks banks(int many) {
        WidenedBanks x = new WidenedBanks();
        for (int bank = 0; bank < many; bank++) {
            x.bank(4, 12);
        }
        return x;
    }

    private static void ofBankBounds() {
        for (int many = 0; many <= 6; many++) {
            for (int of = -1; of <= 9; of++) {
                due("of a BANK: " + of + " of " + many, banks(many).view(of, 0, 1, 1, 4), of >= 0 && of < many ? 0 : BAD);
            }
        }
        due("of MIN", banks(6).view(MIN, 0, 1, 1, 4), BAD);
        due("of MIN + 10", banks(6).view(MIN + 10, 0, 1, 1, 4), BAD);
    }

    private static void ofViewBounds() {
        for (int many = 0; many <= 8; many++) {
            for (int of = 10; of <= 18; of++) {
                WidenedBanks x = banks(6);
                for (int view = 0; view < many; view++) {
                    x.view(0, 0, 1, 1, 4);
                }
                int there = many == 8 ? FULL : many;
                due("of a VIEW: " + of + " of " + many, x.view(of, 0, 1, 1, 4), of - 10 < many ? there : BAD);
            }
        }
        due("of MAX", banks(6).view(MAX, 0, 1, 1, 4), BAD);
    }

    private static void fromBounds() {
        for (int from : new int[] {-21, 21, MIN, MAX}) {
            due("FROM (-20 .. 20): " + from, banks(1).view(0, from, 1, 1, 4), BAD);
        }
        due("FROM (-20 .. 20): -20", banks(1).view(0, -20, 1, 1, 4), 0);
        due("FROM (-20 .. 20): 20", banks(1).view(0, 20, 1, 1, 4), 0);
    }

    private static void stepBounds() {
        for (int step : new int[] {-4, 4, MIN, MAX}) {
            due("STEP (-3 .. 3): " + step, banks(1).view(0, 0, step, 1, 4), BAD);
        }
        due("STEP (-3 .. 3): -3", banks(1).view(0, 0, -3, 1, 4), 0);
        due("STEP (-3 .. 3): 3", banks(1).view(0, 0, 3, 1, 4), 0);
    }

    private static void countBounds() {
        for (int count : new int[] {0, 13, -1, MIN, MAX}) {
            due("COUNT (1 .. 12): " + count, banks(1).view(0, 0, 1, count, 4), BAD);
        }
        due("COUNT (1 .. 12): 1", banks(1).view(0, 0, 1, 1, 4), 0);
        due("COUNT (1 .. 12): 12", banks(1).view(0, 0, 1, 12, 4), 0);
    }

    private static void kindBounds() {
        for (int kind : new int[] {-1, 9, 10, 12, MIN, MAX}) {
            due("KIND (0 .. 8): " + kind, banks(1).view(0, 0, 1, 1, kind), BAD);
        }
        for (int kind = 0; kind <= 8; kind++) {
            due("KIND (0 .. 8): " + kind, banks(1).view(0, 0, 1, 1, kind), 0);
        }
    }

    private static void itsNumber() {
        WidenedBanks x = banks(1);
        for (int view = 0; view < 8; view++) {
            due("its number", x.view(0, view, 1, 1, 4), view);
            due("a VIEW that was refused has none", x.view(0, 0, 1, 13, 4), BAD);
            due("VIEWS", x.count(1), view + 1);
        }
    }

    private static void full8() {
        WidenedBanks x = banks(1);
        for (int view = 0; view < 7; view++) {
            x.view(0, 0, 1, 1, 4);
        }
        due("the eighth", x.view(0, 0, 1, 1, 4), 7);
        due("FULL: 8", x.view(0, 0, 1, 1, 4), FULL);
        due("FULL: 8, of a VIEW", x.view(17, 0, 1, 1, 4), FULL);
        due("8 VIEWS", x.count(1), 8);
    }

    private static void fullAFifthUpon() {
        WidenedBanks x = banks(1);
        due("the lowest", x.view(0, 0, 1, 12, 4), 0);
        due("a second upon it", x.view(10, 0, 1, 12, 4), 1);
        due("a third", x.view(11, 0, 1, 12, 4), 2);
        due("a fourth", x.view(12, 0, 1, 12, 4), 3);
        due("FULL: a fifth one upon the other", x.view(13, 0, 1, 12, 4), FULL);
        due("a fourth beside it", x.view(12, 0, 1, 12, 4), 4);
        due("FULL: a fifth upon that", x.view(14, 0, 1, 12, 4), FULL);
        due("a third beside", x.view(11, 0, 1, 12, 4), 5);
        due("a fourth upon that", x.view(15, 0, 1, 12, 4), 6);
        due("FULL: a fifth upon that", x.view(16, 0, 1, 12, 4), FULL);
        due("one of the BANK", x.view(0, 0, 1, 12, 4), 7);
        read("through four", x, 3, 11, 4, 0);
    }

    private static void badAheadOfFull() {
        int[][] bad = {{13, 21, 1, 1, 4}, {13, 0, 4, 1, 4}, {13, 0, 1, 13, 4}, {13, 0, 1, 0, 4}, {13, 0, 1, 1, 9}, {13, 0, 1, 1, -1}};
        for (int[] b : bad) {
            WidenedBanks x = banks(1);
            for (int view = 0; view < 4; view++) {
                x.view(view == 0 ? 0 : 9 + view, 0, 1, 1, 4);
            }
            due("BAD ahead of FULL, a fifth", x.view(b[0], b[1], b[2], b[3], b[4]), BAD);
            for (int view = 4; view < 8; view++) {
                x.view(0, 0, 1, 1, 4);
            }
            due("BAD ahead of FULL, 8", x.view(0, b[1], b[2], b[3], b[4]), BAD);
            due("BAD ahead of FULL, 8: no such BANK", x.view(1, 0, 1, 1, 4), BAD);
            due("BAD ahead of FULL, 8: no such VIEW", x.view(18, 0, 1, 1, 4), BAD);
        }
    }

    /** Every FROM and STEP: place k is OUT from COUNT on, PAST beside the CELLS, else the CELL's. */
    private static void placeIsFromAndStepTimes() {
        for (int from = -20; from <= 20; from++) {
            for (int step = -3; step <= 3; step++) {
                WidenedBanks x = row();
                int count = 1 + (from + 20) % 12;
                x.view(0, from, step, count, 4);
                for (int k = 0; k < 12; k++) {
                    int at = from + step * k;
                    boolean there = at >= 0 && at < 12;
                    String what = "FROM " + from + " STEP " + step + " place " + k;
                    due(what, x.reads(1, k), k >= count ? OUT : there ? 0 : PAST);
                    if (k < count && there) {
                        due(what, x.number(), at);
                    }
                }
            }
        }
    }

    private static void fromBelow0() {
        WidenedBanks x = row();
        x.view(0, -2, 1, 4, 4);
        due("FROM -2, place 0", x.reads(1, 0), PAST);
        due("FROM -2, place 1", x.reads(1, 1), PAST);
        read("FROM -2, place 2", x, 1, 2, 4, 0);
        read("FROM -2, place 3", x, 1, 3, 4, 1);
        due("FROM -2, place 4", x.reads(1, 4), OUT);
    }

    private static void stepBelow0() {
        WidenedBanks x = row();
        x.view(0, 3, -3, 4, 4);
        read("STEP -3, place 0", x, 1, 0, 4, 3);
        read("STEP -3, place 1", x, 1, 1, 4, 0);
        due("STEP -3, place 2", x.reads(1, 2), PAST);
        due("STEP -3, place 3", x.reads(1, 3), PAST);
        due("STEP -3, place 4", x.reads(1, 4), OUT);
    }

    private static void step0() {
        WidenedBanks x = row();
        x.view(0, 7, 0, 12, 4);
        for (int place = 0; place < 12; place++) {
            read("STEP 0", x, 1, place, 4, 7);
        }
    }

    private static void downToAPlaceOfTheBank() {
        WidenedBanks x = row();
        x.view(0, 1, 2, 6, 4);
        x.view(11, 5, -1, 8, 5);
        x.view(12, -1, 2, 6, 6);
        // VIEW 3 at k is VIEW 2 at 2k - 1, VIEW 1 at 6 - 2k, CELL 13 - 4k.
        due("VIEW 2 has no place -1", x.reads(3, 0), OUT);
        read("place 1", x, 3, 1, 6, 9);
        read("place 2", x, 3, 2, 6, 5);
        read("place 3", x, 3, 3, 6, 1);
        due("VIEW 1 has no place -2", x.reads(3, 4), OUT);
        due("VIEW 2 has no place 9", x.reads(3, 5), OUT);
        due("VIEW 3 has no place 6", x.reads(3, 6), OUT);
        x.view(13, 1, 0, 1, 7);
        due("that is the fifth", x.count(1), 4 + 1);
        read("through four", x, 4, 0, 7, 9);
    }

    private static void refusedChangesNothing() {
        Asked rich = new Asked(States::rich);
        rich.stands("BAD: no such BANK", BAD, x -> x.view(5, 0, 1, 1, 4));
        rich.stands("BAD: no such VIEW", BAD, x -> x.view(17, 0, 1, 1, 4));
        rich.stands("BAD: FROM", BAD, x -> x.view(0, 21, 1, 1, 4));
        rich.stands("BAD: STEP", BAD, x -> x.view(0, 0, -4, 1, 4));
        rich.stands("BAD: COUNT", BAD, x -> x.view(0, 0, 1, 0, 4));
        rich.stands("BAD: KIND", BAD, x -> x.view(0, 0, 1, 1, 9));
        rich.stands("FULL: a fifth upon the other", FULL, x -> x.view(14, 0, 1, 1, 4));
        new Asked(States::full).stands("FULL: 8", FULL, x -> x.view(0, 0, 1, 1, 4));
    }
}
