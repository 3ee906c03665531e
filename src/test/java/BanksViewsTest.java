/** Promises 1 to 4: a new object, bank, view, clear. */
public final class BanksViewsTest {
    private static final int MIN = Integer.MIN_VALUE, MAX = Integer.MAX_VALUE;

    public static void main(String[] args) {
        newObject();
        bank();
        banksAtFirst();
        view();
        viewsUponViews();
        clear();
        Due.end();
    }

    private static void blank(String when, WidenedBanks x) {
        for (int what = 0; what <= 5; what++) {
            Due.due(when + " count(" + what + ")", x.count(what), 0);
        }
        Due.due(when + " number()", x.number(), 0);
        Due.due(when + " kind()", x.kind(), WidenedBanks.NONE);
        Due.due(when + " undo()", x.undo(), WidenedBanks.STATE);
        Due.due(when + " drops()", x.drops(), WidenedBanks.STATE);
        Due.due(when + " back(0)", x.back(0), WidenedBanks.STATE);
        Due.due(when + " back(1)", x.back(1), WidenedBanks.STATE);
        Due.due(when + " unseen(1)", x.unseen(1), 8191);
        for (int refusal = 0; refusal <= 6; refusal++) {
            Due.due(when + " met(" + refusal + ")", x.met(refusal), 0);
            Due.due(when + " modes(" + refusal + ", 0)", x.modes(refusal, 0), 0);
        }
        Due.due(when + " reads(0, 0)", x.reads(0, 0), WidenedBanks.BAD);
        Due.due(when + " looks(0, 0)", x.looks(0, 0), WidenedBanks.BAD);
        Due.due(when + " line(0, 0)", x.line(0, 0), WidenedBanks.BAD);
    }

    private static void newObject() {
        WidenedBanks x = new WidenedBanks();
        blank("new", x);
        Due.due("runs() without LINES", x.runs(), 0);
        Due.due("reorders() without LINES", x.reorders(), 0);
        Due.due("forecast(6) without LINES", x.forecast(6), 0);
        Due.due("keep(0) without BANKS", x.keep(0), 0);
        Due.due("back(0) without BANKS", x.back(0), 0);
        WidenedBanks y = new WidenedBanks();
        y.bank(4, 4);
        Due.due("another object's BANKS", x.count(0), 0);
    }

    private static void bank() {
        WidenedBanks x = new WidenedBanks();
        int[][] bad = {{-1, 1}, {13, 1}, {0, 0}, {0, 13}, {0, -1}, {11, 0}, {12, 13}, {MIN, 1}, {MAX, 1}, {1, MIN}, {1, MAX}};
        for (int[] b : bad) {
            Due.due("bank(" + b[0] + ", " + b[1] + ")", x.bank(b[0], b[1]), WidenedBanks.BAD);
        }
        for (int i = 0; i < 6; i++) {
            Due.due("bank " + i, x.bank(i * 2, 1 + i * 2), i);
        }
        Due.due("a seventh bank", x.bank(4, 4), WidenedBanks.FULL);
        Due.due("BAD ahead of FULL", x.bank(13, 4), WidenedBanks.BAD);
        Due.due("BANKS", x.count(0), 6);
    }

    private static void banksAtFirst() {
        for (int kind = 0; kind <= 12; kind++) {
            WidenedBanks x = new WidenedBanks();
            x.bank(kind, 12);
            int want = kind == 11 ? WidenedBanks.GONE : kind == 12 ? WidenedBanks.BARE : 0;
            Due.due("looks at 11 of KIND " + kind, x.looks(0, 11), want);
            Due.due("number at first of KIND " + kind, x.number(), 0);
            Due.due("kind at first of KIND " + kind, x.kind(), kind <= 7 ? kind : WidenedBanks.NONE);
            WidenedBanks y = new WidenedBanks();
            y.bank(kind, 3);
            Due.due("the last of 3 of KIND " + kind, y.looks(0, 2), want);
            Due.due("behind 3 of KIND " + kind, y.looks(0, 3), want == 0 ? WidenedBanks.PAST : want);
        }
    }

    private static void view() {
        WidenedBanks x = new WidenedBanks();
        x.bank(4, 12);
        x.bank(8, 12);
        int[][] bad = {{2, 0, 1, 1, 4}, {-1, 0, 1, 1, 4}, {6, 0, 1, 1, 4}, {9, 0, 1, 1, 4}, {10, 0, 1, 1, 4}, {18, 0, 1, 1, 4},
            {0, -21, 1, 1, 4}, {0, 21, 1, 1, 4}, {0, 0, -4, 1, 4}, {0, 0, 4, 1, 4}, {0, 0, 1, 0, 4}, {0, 0, 1, 13, 4},
            {0, 0, 1, 1, -1}, {0, 0, 1, 1, 9}, {MIN, 0, 1, 1, 4}, {MAX, 0, 1, 1, 4}, {0, MIN, 1, 1, 4}, {0, 0, MAX, 1, 4},
            {0, 0, 1, MIN, 4}, {0, 0, 1, 1, MAX}, {MIN + 10, 0, 1, 1, 4}};
        for (int[] b : bad) {
            Due.due("view(" + b[0] + ", " + b[1] + ", " + b[2] + ", " + b[3] + ", " + b[4] + ")",
                    x.view(b[0], b[1], b[2], b[3], b[4]), WidenedBanks.BAD);
        }
        Due.due("the least of all", x.view(0, -20, -3, 1, 0), 0);
        Due.due("the most of all", x.view(1, 20, 3, 12, 8), 1);
        Due.due("of a VIEW", x.view(10, 0, 0, 12, 4), 2);
        Due.due("of a VIEW that is not there", x.view(13, 0, 1, 1, 4), WidenedBanks.BAD);
        for (int i = 3; i < 8; i++) {
            Due.due("view " + i, x.view(0, 0, 1, 12, 4), i);
        }
        Due.due("a ninth", x.view(0, 0, 1, 12, 4), WidenedBanks.FULL);
        Due.due("a ninth of a VIEW", x.view(17, 0, 1, 12, 4), WidenedBanks.FULL);
        Due.due("BAD ahead of FULL", x.view(0, 0, 1, 12, 9), WidenedBanks.BAD);
        Due.due("18 is no VIEW", x.view(18, 0, 1, 12, 4), WidenedBanks.BAD);
        Due.due("VIEWS", x.count(1), 8);
    }

    private static void viewsUponViews() {
        WidenedBanks x = new WidenedBanks();
        x.bank(4, 12);
        x.view(0, 0, 1, 12, 4);
        for (int i = 0; i < 12; i++) {
            x.writes(0, i, 4, 0, 100 + i);
        }
        Due.due("second upon", x.view(10, 1, 2, 6, 4), 1);
        Due.due("third upon", x.view(11, 5, -1, 6, 4), 2);
        Due.due("fourth upon", x.view(12, 0, 3, 3, 5), 3);
        Due.due("a fifth upon", x.view(13, 0, 1, 1, 5), WidenedBanks.FULL);
        Due.due("a fifth upon, told badly", x.view(13, 0, 1, 1, 9), WidenedBanks.BAD);
        Due.due("beside the fourth", x.view(12, 0, 1, 1, 5), 4);
        // place 1 of the fourth is 3 of the third, 2 of the second, 5 of the lowest.
        Due.due("through four", x.reads(3, 1), 0);
        Due.due("through four", x.number(), 105);
        Due.due("as one of the top KIND", x.kind(), 5);
        // place 2 of the fourth is 6 of the third, which has 0 .. 5.
        Due.due("OUT beneath", x.reads(3, 2), WidenedBanks.OUT);
        Due.due("OUT of itself", x.reads(3, 3), WidenedBanks.OUT);
    }

    private static void clear() {
        WidenedBanks x = new WidenedBanks();
        Due.due("clear() of nothing", x.clear(), 0);
        x.bank(4, 2);
        x.bank(8, 2);
        x.view(0, 0, 1, 2, 4);
        x.writes(0, 0, 4, 0, 7);
        x.reads(0, 0);
        x.keep(0);
        x.keep(1);
        x.modes(0, 1);
        x.modes(6, 2);
        x.plans(0, 0, 5, 0, 0);
        x.runs();
        Due.due("met before", x.met(0), 1);
        x.plans(5, 3, 0, 0, 0);
        x.sees(4, 0);
        Due.due("clear()", x.clear(), 2);
        blank("cleared", x);
        Due.due("a BANK anew", x.bank(4, 2), 0);
        Due.due("its CELL anew", x.looks(0, 0), 0);
        Due.due("its NUMBER anew", x.number(), 0);
        Due.due("a VIEW anew", x.view(0, 0, 1, 2, 4), 0);
        Due.due("a LINE anew", x.plans(0, 0, 0, 0, 0), 1);
        Due.due("no TURNS are open", x.plans(6, 0, 0, 0, 0), WidenedBanks.STATE);
        Due.due("all that may be SEEN", x.sees(0, 0), 1);
    }
}
