/** Promise 8: kind: "Its KIND (0 .. 7); 9 a NAME; NONE: NOTHING, or none before." */
public final class Promise08KindTest extends Promise {
    public static void main(String[] args) {
        noneBefore();
        itsKind();
        theViewsKind();
        aNameIs9();
        nothingIsNone();
        refusedOnesTellNothing();
        nothingElseTells();
        Due.end();
    }

    private static void noneBefore() {
        WidenedBanks x = row();
        due("none before", x.kind(), NONE);
        x.reads(0, -1);
        x.looks(0, 12);
        due("none before, behind refused ones", x.kind(), NONE);
    }

    private static void itsKind() {
        for (int kind = 0; kind <= 7; kind++) {
            WidenedBanks x = pair(kind, 1, kind);
            x.looks(0, 0);
            due("a CELL's KIND", x.kind(), kind);
            WidenedBanks y = pair(8, 1, 8);
            y.writes(0, 0, kind, 1, 1);
            y.looks(0, 0);
            due("the KIND of a NUMBER in a CELL of 8", y.kind(), kind);
            y.reads(0, 0);
            due("the KIND of a NUMBER BY 8", y.kind(), kind);
        }
    }

    private static void theViewsKind() {
        for (int from = 0; from <= 7; from++) {
            for (int to = 0; to <= 7; to++) {
                if (widens(from, to)) {
                    WidenedBanks x = pair(from, 1, to);
                    x.looks(0, 0);
                    x.reads(0, 0);
                    due("as one of this KIND", x.kind(), to);
                }
            }
        }
    }

    private static void aNameIs9() {
        for (int bank = 8; bank <= 9; bank++) {
            WidenedBanks x = pair(bank, 1, 8);
            x.writes(0, 0, 9, 1, 0);
            x.looks(0, 0);
            due("9 a NAME by looks()", x.kind(), 9);
            WidenedBanks y = pair(bank, 1, 8);
            y.writes(0, 0, 9, 1, 9);
            y.reads(0, 0);
            due("9 a NAME by reads()", y.kind(), 9);
        }
    }

    private static void nothingIsNone() {
        for (int bank = 8; bank <= 10; bank++) {
            WidenedBanks x = pair(4, 1, 4);
            x.bank(bank, 1);
            x.view(1, 0, 1, 1, 8);
            x.looks(0, 0);
            x.looks(1, 0);
            due("NONE: NOTHING by looks()", x.kind(), NONE);
            x.looks(0, 0);
            x.reads(1, 0);
            due("NONE: NOTHING by reads()", x.kind(), NONE);
        }
    }

    private static void refusedOnesTellNothing() {
        WidenedBanks x = States.full();
        x.looks(1, 0);
        due("a NAME", x.kind(), 9);
        x.reads(1, 6);
        x.reads(1, 5);
        x.reads(6, 0);
        x.reads(7, 0);
        x.looks(0, 12);
        x.looks(1, 5);
        x.looks(4, 0);
        x.looks(5, 0);
        due("that was not refused", x.kind(), 9);
    }

    private static void nothingElseTells() {
        WidenedBanks x = row();
        x.looks(0, 1);
        x.bank(8, 1);
        x.view(1, 0, 1, 1, 8);
        x.writes(1, 0, 9, 1, 1);
        x.does(0, 1, 0, 1, 0);
        x.copies(1, 1, 2);
        x.undo();
        x.back(0);
        due("only reads() and looks() tell", x.kind(), 4);
        x.clear();
        due("behind clear()", x.kind(), NONE);
    }
}
