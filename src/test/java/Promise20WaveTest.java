/** Promise 20: wave, with what the Terms say of CLASH and WAVE. */
public final class Promise20WaveTest extends Promise {
    public static void main(String[] args) {
        lineBounds();
        stateALine5Or6();
        stateAPlace12Or13();
        badAheadOfState();
        clashOfEachTwoSteps();
        readsAreNoClash();
        outIsNoCell();
        pastIsNoCell();
        goneAndBareHaveNoCells();
        whateverElseMayBeRefused();
        oneCellByOtherViews();
        theSamePlaceOfAnotherBank();
        noneAheadOfIt();
        oneMoreThanTheGreatest();
        notByThoseItDoesNotClashWith();
        waves0To15();
        nothingChanges();
        refusedChangesNothing();
        Due.end();
    }

    private static void lineBounds() {
        WidenedBanks x = row();
        due("no LINES", x.wave(0), BAD);
        for (int many = 1; many <= 16; many++) {
            x.plans(0, 0, 0, 0, 0);
            due("LINE " + many + " of " + many, x.wave(many), BAD);
            due("LINE -1", x.wave(-1), BAD);
            due("the last LINE", x.wave(many - 1), many - 1);
        }
        due("MIN", x.wave(MIN), BAD);
        due("MAX", x.wave(MAX), BAD);
    }

    private static void stateALine5Or6() {
        WidenedBanks x = row();
        x.plans(0, 0, 0, 0, 1);
        due("none", x.wave(0), 0);
        Programs.turns(x, 0);
        due("a LINE 5, behind it", x.wave(0), STATE);
        due("a LINE 5", x.wave(1), STATE);
        Programs.end(x);
        x.plans(0, 0, 0, 0, 1);
        due("LINES 5, 6, ahead of it", x.wave(3), STATE);
        due("a LINE 6", x.wave(2), STATE);
    }

    private static void stateAPlace12Or13() {
        for (int step = 0; step <= 4; step++) {
            for (int place = 11; place <= 13; place++) {
                int want = place == 11 ? 0 : STATE;
                WidenedBanks x = row();
                x.plans(0, 0, 0, 0, 1);
                x.plans(step, 0, place, 0, 2);
                due("p " + place, x.wave(0), want);
                due("p " + place, x.wave(1), want);
                WidenedBanks y = row();
                y.plans(step, 0, 2, 0, place);
                y.plans(0, 0, 0, 0, 1);
                due("q " + place, y.wave(0), want);
                due("q " + place, y.wave(1), want);
            }
        }
    }

    private static void badAheadOfState() {
        WidenedBanks x = row();
        Programs.turns(x, 1);
        due("BAD ahead of STATE: as many as there are", x.wave(1), BAD);
        due("BAD ahead of STATE: -1", x.wave(-1), BAD);
        due("STATE", x.wave(0), STATE);
    }

    /** What a LINE READS and WRITES of its CELLS p, q (bits 1 and 2), as the document tells it. */
    private static int reads(int step) {
        return step == 0 ? 1 : 3;
    }

    private static int writes(int step) {
        return step == 4 ? 3 : 2;
    }

    private static int cellsOf(int parts, int p, int q) {
        return (parts & 1) * (1 << p) | (parts >> 1 & 1) * (1 << q);
    }

    private static void clashOfEachTwoSteps() {
        for (int first = 0; first <= 4; first++) {
            for (int second = 0; second <= 4; second++) {
                for (int places = 0; places < 256; places++) {
                    int p = places & 3;
                    int q = places >> 2 & 3;
                    int r = places >> 4 & 3;
                    int s = places >> 6;
                    int written = cellsOf(writes(first), p, q);
                    int writtenToo = cellsOf(writes(second), r, s);
                    boolean clash = (written & (writtenToo | cellsOf(reads(second), r, s))) != 0
                            || (writtenToo & cellsOf(reads(first), p, q)) != 0;
                    WidenedBanks x = pair(4, 4, 4);
                    x.plans(first, 0, p, 0, q);
                    x.plans(second, 0, r, 0, s);
                    due(first + " " + p + " " + q + " and " + second + " " + r + " " + s, x.wave(1), clash ? 1 : 0);
                }
            }
        }
    }

    private static void readsAreNoClash() {
        for (int step = 0; step <= 3; step++) {
            WidenedBanks x = row();
            x.plans(step, 0, 0, 0, 1);
            x.plans(step, 0, 0, 0, 2);
            due("both READ one CELL", x.wave(1), 0);
        }
        WidenedBanks y = row();
        y.plans(4, 0, 0, 0, 1);
        y.plans(0, 0, 0, 0, 2);
        due("4 WRITES a's, too", y.wave(1), 1);
    }

    private static void outIsNoCell() {
        for (int step = 0; step <= 4; step++) {
            WidenedBanks x = row();
            x.view(0, 0, 1, 2, 4);
            x.view(11, -1, 1, 4, 4);
            x.plans(step, 1, 2, 0, 8);
            x.plans(step, 1, 2, 0, 9);
            due("OUT as a", x.wave(1), 0);
            x.plans(4, 0, 2, 0, 3);
            due("the CELL where it would be", x.wave(2), 0);
            x.plans(step, 0, 10, 2, 0);
            x.plans(step, 0, 11, 2, 0);
            x.plans(step, 0, 7, 2, 3);
            due("OUT beneath as b, place -1", x.wave(4), 0);
            due("OUT beneath as b, place COUNT", x.wave(5), 0);
        }
    }

    private static void pastIsNoCell() {
        for (int step = 0; step <= 4; step++) {
            WidenedBanks x = new WidenedBanks();
            x.bank(4, 2);
            x.bank(4, 12);
            x.view(0, -1, 1, 12, 4);
            x.view(1, 0, 1, 12, 4);
            x.plans(step, 0, 0, 1, 1);
            x.plans(step, 0, 0, 1, 2);
            due("PAST below as a", x.wave(1), 0);
            x.plans(step, 0, 3, 1, 3);
            x.plans(step, 0, 3, 1, 4);
            due("PAST above as a", x.wave(3), 0);
            x.plans(step, 1, 5, 0, 3);
            x.plans(step, 1, 6, 0, 3);
            due("PAST above as b", x.wave(5), 0);
            x.plans(step, 1, 7, 0, 2);
            x.plans(step, 1, 8, 0, 2);
            due("the last CELL is one", x.wave(7), 1);
        }
    }

    private static void goneAndBareHaveNoCells() {
        WidenedBanks x = new WidenedBanks();
        x.bank(11, 3);
        x.bank(12, 3);
        x.view(0, 0, 1, 3, 8);
        x.view(1, 0, 1, 3, 8);
        for (int line = 0; line < 4; line++) {
            x.plans(4, line % 2, 0, line % 2, 0);
            due("no CELLS", x.wave(line), 0);
        }
    }

    private static void whateverElseMayBeRefused() {
        WidenedBanks x = new WidenedBanks();
        x.bank(4, 3);
        x.bank(8, 3);
        x.view(0, 0, 1, 3, 0);
        x.view(1, 0, 1, 3, 4);
        x.plans(0, 0, 0, 0, 1);
        x.plans(0, 0, 1, 0, 2);
        due("UNLIKE as it is READ", x.wave(1), 1);
        x.plans(0, 1, 0, 1, 1);
        x.plans(0, 1, 1, 1, 2);
        due("UNLIKE of 8", x.wave(3), 1);
    }

    private static void oneCellByOtherViews() {
        WidenedBanks x = row();
        x.view(0, 11, -1, 12, 8);
        x.view(11, 1, 3, 4, 7);
        x.plans(0, 0, 0, 0, 7);
        // VIEW 2 at 1 is VIEW 1 at 4, CELL 7.
        x.plans(0, 2, 1, 0, 8);
        due("one CELL, two VIEWS upon each other", x.wave(1), 1);
        x.plans(0, 1, 3, 0, 1);
        due("CELL 8", x.wave(2), 2);
        x.plans(0, 1, 7, 0, 2);
        due("CELL 4", x.wave(3), 0);
    }

    private static void theSamePlaceOfAnotherBank() {
        WidenedBanks x = row();
        x.bank(4, 12);
        x.view(1, 0, 1, 12, 4);
        x.plans(4, 0, 0, 0, 1);
        x.plans(4, 1, 0, 1, 1);
        due("another BANK", x.wave(1), 0);
    }

    private static void noneAheadOfIt() {
        WidenedBanks x = row();
        x.plans(0, 0, 0, 0, 0);
        due("the first LINE", x.wave(0), 0);
        x.plans(0, 0, 0, 0, 0);
        due("what comes behind it does not matter", x.wave(0), 0);
        due("it CLASHES with one ahead", x.wave(1), 1);
    }

    private static void oneMoreThanTheGreatest() {
        WidenedBanks x = row();
        x.plans(0, 0, 0, 0, 1);
        x.plans(0, 0, 1, 0, 2);
        x.plans(0, 0, 2, 0, 3);
        x.plans(0, 0, 8, 0, 9);
        x.plans(1, 0, 3, 0, 9);
        due("of WAVES 2 and 0", x.wave(4), 3);
        x.plans(1, 0, 9, 0, 1);
        due("of WAVES 0, 1, 3", x.wave(5), 4);
        x.plans(0, 0, 2, 0, 8);
        due("of WAVES 1 and 0, the lesser behind the greater", x.wave(6), 2);
    }

    private static void notByThoseItDoesNotClashWith() {
        WidenedBanks x = row();
        for (int line = 0; line < 5; line++) {
            x.plans(0, 0, line, 0, line + 1);
        }
        x.plans(0, 0, 10, 0, 11);
        due("CLASHES with none", x.wave(5), 0);
        x.plans(0, 0, 10, 0, 11);
        due("CLASHES with one of WAVE 0", x.wave(6), 1);
    }

    private static void waves0To15() {
        WidenedBanks x = row();
        for (int line = 0; line < 16; line++) {
            x.plans(4, 0, 0, 0, 1);
        }
        for (int line = 0; line < 16; line++) {
            due("all CLASH", x.wave(line), line);
        }
        WidenedBanks y = row();
        for (int line = 0; line < 16; line++) {
            y.plans(0, 0, line % 2, 0, line % 2);
        }
        for (int line = 0; line < 16; line++) {
            due("two rows of LINES", y.wave(line), line / 2);
        }
    }

    private static void nothingChanges() {
        new Asked(States::plain).same("behind wave()", () -> {
            WidenedBanks x = States.plain();
            x.wave(0);
            x.wave(3);
            return x;
        });
    }

    private static void refusedChangesNothing() {
        Asked plain = new Asked(States::plain);
        plain.stands("BAD: 4", BAD, x -> x.wave(4));
        plain.stands("BAD: -1", BAD, x -> x.wave(-1));
        new Asked(States::rich).stands("STATE", STATE, x -> x.wave(0));
    }
}
