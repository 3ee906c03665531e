/** Promises 20 and 21: wave, reorders. */
public final class WavesTest {
    public static void main(String[] args) {
        clashes();
        noCells();
        otherViewsOfOneCell();
        chain();
        reorders();
        state();
        Due.end();
    }

    private static WidenedBanks row() {
        WidenedBanks x = new WidenedBanks();
        x.bank(4, 12);
        x.bank(4, 12);
        x.view(0, 0, 1, 12, 4);
        x.view(1, 0, 1, 12, 4);
        return x;
    }

    /** Two LINES on places of one VIEW: do they CLASH? */
    private static void clash(int stepK, int p, int q, int stepL, int r, int s, boolean want) {
        WidenedBanks x = row();
        x.plans(stepK, 0, p, 0, q);
        x.plans(stepL, 0, r, 0, s);
        String what = stepK + " " + p + " " + q + " and " + stepL + " " + r + " " + s;
        Due.due(what, x.wave(0), 0);
        Due.due(what, x.wave(1), want ? 1 : 0);
    }

    private static void clashes() {
        clash(0, 1, 2, 0, 3, 4, false);
        clash(0, 1, 2, 0, 2, 3, true);
        clash(0, 1, 2, 0, 3, 2, true);
        clash(0, 1, 2, 0, 3, 1, true);
        clash(0, 1, 2, 0, 1, 3, false);
        clash(0, 1, 2, 0, 1, 2, true);
        for (int sum = 1; sum <= 3; sum++) {
            clash(sum, 1, 2, sum, 1, 3, false);
            clash(sum, 1, 2, sum, 3, 1, true);
            clash(sum, 1, 2, sum, 2, 3, true);
            clash(sum, 1, 2, sum, 3, 2, true);
            clash(sum, 1, 2, 0, 1, 3, false);
            clash(0, 1, 2, sum, 1, 3, false);
        }
        clash(4, 1, 2, 0, 1, 3, true);
        clash(4, 1, 2, 0, 3, 1, true);
        clash(4, 1, 2, 0, 2, 3, true);
        clash(4, 1, 2, 4, 3, 1, true);
        clash(4, 1, 2, 4, 3, 4, false);
        clash(0, 1, 3, 4, 1, 2, true);
        clash(1, 1, 3, 4, 4, 1, true);
    }

    private static void noCells() {
        WidenedBanks x = new WidenedBanks();
        x.bank(4, 3);
        x.bank(11, 3);
        x.view(0, 0, 1, 4, 4);
        x.view(1, 0, 1, 4, 4);
        x.view(0, 0, 1, 4, 3);
        x.plans(4, 0, 3, 0, 0);
        x.plans(4, 0, 3, 0, 1);
        Due.due("PAST is no CELL", x.wave(1), 0);
        x.plans(4, 0, 5, 0, 2);
        x.plans(0, 0, 5, 0, 5);
        Due.due("OUT is no CELL", x.wave(3), 0);
        x.plans(4, 1, 0, 1, 0);
        x.plans(4, 1, 0, 1, 0);
        Due.due("GONE has no CELLS", x.wave(5), 0);
        x.plans(0, 2, 0, 2, 1);
        Due.due("whatever else may be refused", x.wave(6), 1);
    }

    private static void otherViewsOfOneCell() {
        WidenedBanks x = new WidenedBanks();
        x.bank(4, 6);
        x.bank(4, 6);
        x.view(0, 5, -1, 6, 4);
        x.view(10, 0, 2, 3, 8);
        x.view(0, 0, 1, 6, 4);
        x.view(1, 0, 1, 6, 4);
        x.plans(0, 3, 0, 2, 3);
        // place 1 of VIEW 1 is 2 of VIEW 0, CELL 3.
        x.plans(0, 1, 1, 3, 1);
        x.plans(0, 3, 3, 3, 4);
        Due.due("one CELL", x.wave(1), 1);
        Due.due("the same place of another BANK", x.wave(2), 0);
    }

    private static void chain() {
        WidenedBanks x = row();
        for (int i = 0; i < 11; i++) {
            x.plans(0, 0, i, 0, i + 1);
            Due.due("a chain", x.wave(i), i);
        }
        x.plans(0, 1, 0, 1, 1);
        Due.due("beside it", x.wave(11), 0);
        x.plans(0, 0, 1, 1, 1);
        Due.due("READS what 0 WRITES, WRITES what 11 WRITES", x.wave(12), 1);
        x.plans(0, 0, 1, 1, 1);
        Due.due("and again", x.wave(13), 2);
        x.plans(1, 1, 1, 0, 5);
        Due.due("one more than the greatest, be it not the latest", x.wave(14), 6);
        Due.due("wave(15)", x.wave(15), WidenedBanks.BAD);
        Due.due("wave(-1)", x.wave(-1), WidenedBanks.BAD);
        Due.due("wave(MIN)", x.wave(Integer.MIN_VALUE), WidenedBanks.BAD);
    }

    private static void reorders() {
        WidenedBanks x = row();
        int[][] lines = {{0, 0, 0, 0, 1}, {1, 0, 1, 0, 2}, {2, 0, 2, 0, 3}, {3, 1, 0, 1, 1}, {4, 1, 1, 1, 2}, {0, 1, 5, 1, 6}};
        int[] waves = {0, 1, 2, 0, 1, 0};
        for (int[] l : lines) {
            x.plans(l[0], l[1], l[2], l[3], l[4]);
        }
        for (int i = 0; i < 6; i++) {
            Due.due("wave(" + i + ")", x.wave(i), waves[i]);
        }
        Due.due("reorders()", x.reorders(), 4);
        int[] order = {0, 3, 5, 1, 4, 2};
        for (int i = 0; i < 6; i++) {
            for (int what = 0; what < 5; what++) {
                Due.due("line(" + i + ", " + what + ")", x.line(i, what), lines[order[i]][what]);
            }
            Due.due("its wave", x.wave(i), waves[order[i]]);
        }
        Due.due("again", x.reorders(), 0);
        Due.due("LINES", x.count(2), 6);
        x.drops();
        Due.due("the last LINE now", x.line(4, 0), 4);

        WidenedBanks y = row();
        y.plans(0, 0, 0, 0, 1);
        y.plans(0, 0, 0, 0, 1);
        y.plans(0, 1, 0, 1, 1);
        y.plans(0, 0, 0, 0, 1);
        Due.due("LINES that are alike have places, too", y.reorders(), 2);
        for (int i = 4; i < 16; i++) {
            y.plans(0, 0, 0, 0, 1);
        }
        Due.due("16 LINES", y.wave(15), 14);
        Due.due("16 LINES", y.reorders(), 0);
    }

    private static void state() {
        int[][] lines = {{5, 1, 0, 0, 0}, {0, 0, 12, 0, 0}, {0, 0, 0, 0, 12}, {4, 0, 13, 0, 0}, {4, 0, 0, 0, 13}};
        for (int[] l : lines) {
            WidenedBanks x = row();
            x.plans(0, 0, 11, 0, 11);
            x.plans(l[0], l[1], l[2], l[3], l[4]);
            Due.due("wave", x.wave(0), WidenedBanks.STATE);
            Due.due("wave", x.wave(1), WidenedBanks.STATE);
            Due.due("BAD ahead of STATE", x.wave(2), WidenedBanks.BAD);
            Due.due("reorders", x.reorders(), WidenedBanks.STATE);
            x.drops();
            Due.due("wave again", x.wave(0), 0);
            Due.due("reorders again", x.reorders(), 0);
        }
    }
}
