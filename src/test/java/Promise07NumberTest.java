/** Promise 7: number: "The NUMBER (a NAME's; of NOTHING 0) that the latest reads() or looks() that was not refused told; 0 before." */
public final class Promise07NumberTest extends Promise {
    public static void main(String[] args) {
        zeroBefore();
        aNames();
        ofNothing0();
        ofEachKindAtItsEnds();
        theLatest();
        refusedOnesTellNothing();
        nothingElseTells();
        stillToldBehindUndoAndBack();
        Due.end();
    }

    private static void zeroBefore() {
        WidenedBanks x = row();
        due("0 before", x.number(), 0);
        x.reads(0, 12);
        x.looks(1, 0);
        due("0 before, behind refused ones", x.number(), 0);
    }

    private static void aNames() {
        WidenedBanks x = pair(9, 10, 8);
        for (int name = 0; name <= 9; name++) {
            x.writes(0, name, 9, 1, name);
        }
        for (int name = 0; name <= 9; name++) {
            x.looks(0, name);
            due("a NAME's by looks()", x.number(), name);
            x.reads(0, 9 - name);
            due("a NAME's by reads()", x.number(), 9 - name);
        }
    }

    private static void ofNothing0() {
        for (int kind = 8; kind <= 10; kind++) {
            WidenedBanks x = pair(4, 1, 4);
            x.bank(kind, 2);
            x.view(1, 0, 1, 2, 8);
            x.writes(0, 0, 4, 0, 5);
            x.looks(0, 0);
            x.looks(1, 0);
            due("of NOTHING 0 by looks()", x.number(), 0);
            x.looks(0, 0);
            x.reads(1, 1);
            due("of NOTHING 0 by reads()", x.number(), 0);
            x.writes(1, 0, 10, 1, 99);
            x.looks(0, 0);
            x.looks(1, 0);
            due("of NOTHING 0, whatever number was told with it", x.number(), 0);
        }
    }

    private static void ofEachKindAtItsEnds() {
        long[][] ends = {{0, 1}, {-128, 127}, {0, 65535}, {-32768, 32767}, {MIN, MAX}, {-EDGE, EDGE}, {-EDGE, EDGE}, {-EDGE, EDGE}};
        for (int kind = 0; kind <= 7; kind++) {
            for (long end : ends[kind]) {
                WidenedBanks x = pair(kind, 1, kind);
                x.writes(0, 0, kind, 0, end);
                x.reads(0, 0);
                due("KIND " + kind, x.number(), end);
            }
        }
    }

    private static void theLatest() {
        WidenedBanks x = row();
        x.looks(0, 3);
        due("looks()", x.number(), 3);
        x.reads(0, 4);
        due("then reads()", x.number(), 4);
        x.looks(0, 5);
        due("then looks()", x.number(), 5);
        due("asked again", x.number(), 5);
    }

    private static void refusedOnesTellNothing() {
        WidenedBanks x = States.full();
        x.looks(0, 7);
        due("told", x.number(), 107);
        due("BAD", x.reads(8, 0), BAD);
        due("BAD", x.reads(0, 12), BAD);
        due("OUT", x.reads(1, 6), OUT);
        due("PAST", x.reads(1, 5), PAST);
        due("GONE", x.reads(6, 0), GONE);
        due("BARE", x.reads(7, 0), BARE);
        due("BAD", x.looks(6, 0), BAD);
        due("PAST", x.looks(1, 5), PAST);
        due("GONE", x.looks(4, 0), GONE);
        due("BARE", x.looks(5, 0), BARE);
        due("that was not refused", x.number(), 107);
    }

    private static void nothingElseTells() {
        WidenedBanks x = States.rich();
        x.looks(0, 7);
        x.writes(0, 7, 4, 0, 1);
        x.does(1, 0, 7, 0, 8);
        x.copies(0, 0, 1);
        x.runs();
        x.keep(1);
        x.bank(4, 1);
        x.view(0, 0, 1, 1, 4);
        x.forecast(6);
        x.would(0, 0, 4);
        x.safe(0, 0);
        due("only reads() and looks() tell", x.number(), 107);
    }

    private static void stillToldBehindUndoAndBack() {
        WidenedBanks x = row();
        x.writes(0, 0, 4, 0, 50);
        x.looks(0, 0);
        x.undo();
        due("behind undo()", x.number(), 50);
        x.back(0);
        due("behind back()", x.number(), 50);
        x.clear();
        due("behind clear()", x.number(), 0);
    }
}
