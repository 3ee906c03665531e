/** Promises 30 to 32: keep, back, count. */
public final class ImagesTest {
    public static void main(String[] args) {
        keepAndBack();
        onlyCells();
        laterBanks();
        bad();
        count();
        Due.end();
    }

    private static void cell(String what, WidenedBanks x, int bank, int place, int kind, long number) {
        Due.due(what + ": looks", x.looks(bank, place), 0);
        Due.due(what + ": number", x.number(), number);
        Due.due(what + ": kind", x.kind(), kind);
    }

    private static void keepAndBack() {
        WidenedBanks x = new WidenedBanks();
        x.bank(8, 3);
        x.bank(7, 12);
        x.view(0, 0, 1, 3, 8);
        x.view(1, 0, 1, 12, 7);
        x.writes(0, 0, 9, 1, 4);
        x.writes(0, 1, 5, 1, 1L << 59);
        x.writes(1, 11, 7, 0, -8);
        Due.due("keep(0)", x.keep(0), 2);
        Due.due("nothing is lost by it", x.count(5), 3);
        x.writes(0, 0, 10, 1, 0);
        x.writes(1, 11, 7, 0, 99);
        Due.due("keep(1)", x.keep(1), 2);
        x.writes(0, 2, 3, 1, 3);
        Due.due("back(0)", x.back(0), 2);
        cell("0", x, 0, 0, 9, 4);
        cell("0", x, 0, 1, 5, 1L << 59);
        cell("0", x, 0, 2, WidenedBanks.NONE, 0);
        cell("0", x, 1, 11, 7, -8);
        Due.due("nothing can be UNDONE", x.count(5), 0);
        Due.due("nothing can be UNDONE", x.undo(), WidenedBanks.STATE);
        Due.due("back(1)", x.back(1), 2);
        cell("1", x, 0, 0, WidenedBanks.NONE, 0);
        cell("1", x, 1, 11, 7, 99);
        x.writes(1, 11, 7, 0, 1);
        Due.due("known again", x.undo(), 0);
        cell("undone", x, 1, 11, 7, 99);
        Due.due("back(0) once more", x.back(0), 2);
        cell("0 once more", x, 1, 11, 7, -8);
        x.writes(1, 11, 7, 0, 5);
        Due.due("kept anew", x.keep(0), 2);
        x.writes(1, 11, 7, 0, 6);
        x.back(0);
        cell("kept anew", x, 1, 11, 7, 5);
    }

    private static void onlyCells() {
        WidenedBanks x = new WidenedBanks();
        x.bank(4, 2);
        x.view(0, 0, 1, 2, 4);
        x.writes(0, 1, 4, 0, 8);
        x.reads(0, 1);
        x.keep(0);
        x.view(0, 0, 1, 1, 8);
        x.plans(5, 2, 0, 0, 0);
        x.sees(4, 0);
        x.modes(3, 2);
        x.writes(0, 1, 4, 0, 9);
        x.reads(0, 1);
        x.back(0);
        Due.due("NUMBER told", x.number(), 9);
        Due.due("VIEWS", x.count(1), 2);
        Due.due("LINES", x.count(2), 1);
        Due.due("TURNS", x.count(3), 1);
        Due.due("SEEN", x.count(4), 1);
        Due.due("MODE", x.modes(3, 0), 2);
        cell("CELL", x, 0, 1, 4, 8);
    }

    private static void laterBanks() {
        WidenedBanks x = new WidenedBanks();
        Due.due("an IMAGE of none", x.keep(1), 0);
        x.bank(4, 2);
        x.view(0, 0, 1, 2, 4);
        x.keep(0);
        x.bank(5, 2);
        x.bank(8, 2);
        x.view(1, 0, 1, 2, 5);
        x.view(2, 0, 1, 2, 8);
        x.writes(0, 0, 4, 0, 1);
        x.writes(1, 0, 5, 0, 2);
        x.writes(2, 0, 9, 1, 3);
        Due.due("BANKS that it has", x.back(0), 1);
        cell("kept", x, 0, 0, 4, 0);
        cell("stays", x, 1, 0, 5, 2);
        cell("stays", x, 2, 0, 9, 3);
        x.writes(0, 0, 4, 0, 1);
        Due.due("BANKS that it has: none", x.back(1), 0);
        cell("stays", x, 0, 0, 4, 1);
        Due.due("nothing can be UNDONE behind it either", x.count(5), 0);
    }

    private static void bad() {
        WidenedBanks x = new WidenedBanks();
        for (int image : new int[] {-1, 2, Integer.MIN_VALUE, Integer.MAX_VALUE}) {
            Due.due("keep(" + image + ")", x.keep(image), WidenedBanks.BAD);
            Due.due("back(" + image + ")", x.back(image), WidenedBanks.BAD);
        }
        Due.due("none was kept", x.back(0), WidenedBanks.STATE);
        x.keep(0);
        Due.due("the other was not", x.back(1), WidenedBanks.STATE);
        x.bank(4, 1);
        x.view(0, 0, 1, 1, 4);
        x.writes(0, 0, 4, 0, 1);
        x.back(1);
        Due.due("a refused one loses nothing", x.count(5), 1);
    }

    private static void count() {
        WidenedBanks x = new WidenedBanks();
        x.bank(4, 1);
        x.bank(4, 1);
        x.bank(4, 1);
        x.view(0, 0, 1, 1, 4);
        x.view(0, 0, 1, 1, 4);
        x.plans(5, 1, 0, 0, 0);
        x.plans(5, 1, 0, 0, 0);
        x.plans(0, 0, 0, 0, 0);
        x.plans(0, 0, 0, 0, 0);
        x.sees(0, 0);
        x.sees(0, 0);
        x.sees(0, 0);
        x.sees(0, 0);
        x.sees(0, 0);
        x.writes(0, 0, 4, 0, 1);
        int[] want = {3, 2, 4, 2, 5, 1};
        for (int what = 0; what <= 5; what++) {
            Due.due("count(" + what + ")", x.count(what), want[what]);
        }
        for (int what : new int[] {-1, 6, Integer.MIN_VALUE, Integer.MAX_VALUE}) {
            Due.due("count(" + what + ")", x.count(what), WidenedBanks.BAD);
        }
    }
}
