/** Promises 13 to 19: plans, drops, modes, runs, line, met, forecast. */
public final class ProgramTest {
    private static final int MIN = Integer.MIN_VALUE, MAX = Integer.MAX_VALUE;
    private static final int OUT = 0, GONE = 1, BARE = 2, UNLIKE = 3, PAST = 4, VOID = 5, WIDE = 6;
    private static final int STOP = 0, SKIP = 1, LEAVE = 2;

    public static void main(String[] args) {
        plansBad();
        plansState();
        plansFull();
        drops();
        lines();
        modes();
        turns();
        noTurns();
        turnNumbers();
        spent();
        stops();
        skips();
        leaves();
        leavesInner();
        met();
        forecastKinds();
        forecastOpen();
        forecastSwapAndSum();
        forecastThroughViews();
        forecastTurns();
        forecastBad();
        Due.end();
    }

    /** BANK 0 of KIND 4, 12 CELLS that have their own place; VIEW 0 of it. */
    private static WidenedBanks row() {
        WidenedBanks x = new WidenedBanks();
        x.bank(4, 12);
        x.view(0, 0, 1, 12, 4);
        x.view(0, 0, 1, 4, 4);
        for (int i = 0; i < 12; i++) {
            x.writes(0, i, 4, 0, i);
        }
        return x;
    }

    private static void cell(String what, WidenedBanks x, int bank, int place, long number) {
        Due.due(what + ": looks", x.looks(bank, place), 0);
        Due.due(what + ": number", x.number(), number);
    }

    private static void plansBad() {
        WidenedBanks x = row();
        int[][] bad = {{-1, 0, 0, 0, 0}, {7, 0, 0, 0, 0}, {0, 2, 0, 0, 0}, {0, -1, 0, 0, 0}, {0, 0, -1, 0, 0}, {0, 0, 14, 0, 0},
            {0, 0, 0, 2, 0}, {0, 0, 0, -1, 0}, {0, 0, 0, 0, -1}, {0, 0, 0, 0, 14}, {5, -1, 0, 0, 0}, {5, 10, 0, 0, 0},
            {MIN, 0, 0, 0, 0}, {MAX, 0, 0, 0, 0}, {4, MAX, 0, 0, 0}, {4, 0, MIN, 0, 0}, {4, 0, 0, MAX, 0}, {4, 0, 0, 0, MIN}, {5, MAX, 0, 0, 0}};
        for (int[] b : bad) {
            Due.due("plans(" + b[0] + ", " + b[1] + ", " + b[2] + ", " + b[3] + ", " + b[4] + ")",
                    x.plans(b[0], b[1], b[2], b[3], b[4]), WidenedBanks.BAD);
        }
        Due.due("none was taken", x.count(2), 0);
        Due.due("TURNS let the others be", x.plans(5, 9, -7, 99, MIN), 1);
        Due.due("END lets all be", x.plans(6, MIN, MAX, -1, 77), 2);
        Due.due("no TURNS at all", x.plans(5, 0, 0, 0, 0), 3);
        Due.due("places 12, 13", x.plans(4, 0, 12, 1, 13), 4);
    }

    private static void plansState() {
        WidenedBanks x = row();
        Due.due("END of nothing", x.plans(6, 0, 0, 0, 0), WidenedBanks.STATE);
        x.plans(5, 1, 0, 0, 0);
        x.plans(6, 0, 0, 0, 0);
        Due.due("END once more", x.plans(6, 0, 0, 0, 0), WidenedBanks.STATE);
        Due.due("LINES", x.count(2), 2);
        for (int i = 2; i < 16; i++) {
            x.plans(0, 0, 0, 0, 0);
        }
        Due.due("STATE ahead of FULL", x.plans(6, 0, 0, 0, 0), WidenedBanks.STATE);
        Due.due("BAD ahead of FULL", x.plans(0, 5, 0, 0, 0), WidenedBanks.BAD);
    }

    private static void plansFull() {
        WidenedBanks x = row();
        for (int i = 1; i <= 3; i++) {
            Due.due("TURNS within", x.plans(5, 2, 0, 0, 0), i);
            Due.due("open", x.count(3), i);
        }
        Due.due("a fourth TURNS within", x.plans(5, 2, 0, 0, 0), WidenedBanks.FULL);
        Due.due("a fourth, told badly", x.plans(5, 10, 0, 0, 0), WidenedBanks.BAD);
        Due.due("END", x.plans(6, 0, 0, 0, 0), 4);
        Due.due("a third one again", x.plans(5, 2, 0, 0, 0), 5);
        for (int i = 6; i <= 16; i++) {
            Due.due("LINE", x.plans(0, 0, 0, 0, 0), i);
        }
        Due.due("a 17th", x.plans(0, 0, 0, 0, 0), WidenedBanks.FULL);
        Due.due("a 17th, END", x.plans(6, 0, 0, 0, 0), WidenedBanks.FULL);
        Due.due("open", x.count(3), 3);
    }

    private static void drops() {
        WidenedBanks x = row();
        Due.due("none", x.drops(), WidenedBanks.STATE);
        x.plans(5, 1, 0, 0, 0);
        x.plans(0, 0, 0, 0, 1);
        x.plans(6, 0, 0, 0, 0);
        Due.due("END is gone", x.drops(), 2);
        Due.due("open again", x.count(3), 1);
        Due.due("so no RUN", x.runs(), WidenedBanks.STATE);
        Due.due("a STEP is gone", x.drops(), 1);
        Due.due("TURNS are gone", x.drops(), 0);
        Due.due("none open", x.count(3), 0);
        Due.due("none more", x.drops(), WidenedBanks.STATE);
        x.plans(3, 1, 2, 0, 4);
        Due.due("anew", x.line(0, 0), 3);
    }

    private static void lines() {
        WidenedBanks x = row();
        x.plans(2, 1, 3, 0, 13);
        x.plans(5, 7, 5, 6, 8);
        x.plans(6, 1, 2, 3, 4);
        int[][] want = {{2, 1, 3, 0, 13}, {5, 7, 0, 0, 0}, {6, 0, 0, 0, 0}};
        for (int l = 0; l < 3; l++) {
            for (int what = 0; what < 5; what++) {
                Due.due("line(" + l + ", " + what + ")", x.line(l, what), want[l][what]);
            }
        }
        Due.due("line(3, 0)", x.line(3, 0), WidenedBanks.BAD);
        Due.due("line(-1, 0)", x.line(-1, 0), WidenedBanks.BAD);
        Due.due("line(0, 5)", x.line(0, 5), WidenedBanks.BAD);
        Due.due("line(0, -1)", x.line(0, -1), WidenedBanks.BAD);
        Due.due("line(MAX, MIN)", x.line(MAX, MIN), WidenedBanks.BAD);
        x.drops();
        Due.due("a LINE that is gone", x.line(2, 0), WidenedBanks.BAD);
    }

    private static void modes() {
        WidenedBanks x = row();
        for (int refusal = 0; refusal <= 6; refusal++) {
            Due.due("at first", x.modes(refusal, 2), 0);
            Due.due("then", x.modes(refusal, 1), 2);
            Due.due("then", x.modes(refusal, 0), 1);
            Due.due("mode 3", x.modes(refusal, 3), WidenedBanks.BAD);
            Due.due("mode -1", x.modes(refusal, -1), WidenedBanks.BAD);
            Due.due("still", x.modes(refusal, 0), 0);
        }
        Due.due("refusal 7", x.modes(7, 0), WidenedBanks.BAD);
        Due.due("refusal -1", x.modes(-1, 0), WidenedBanks.BAD);
        Due.due("refusal MIN", x.modes(MIN, MAX), WidenedBanks.BAD);
    }

    private static void turns() {
        WidenedBanks x = row();
        x.plans(5, 3, 0, 0, 0);
        x.plans(1, 0, 1, 0, 0);
        x.plans(5, 2, 0, 0, 0);
        x.plans(1, 0, 10, 0, 0);
        x.plans(6, 0, 0, 0, 0);
        Due.due("TURNS are open", x.runs(), WidenedBanks.STATE);
        x.plans(6, 0, 0, 0, 0);
        x.plans(1, 0, 11, 0, 0);
        Due.due("3 * (1 + 2) + 1", x.runs(), 10);
        cell("3 * (1 + 20) + 11", x, 0, 0, 74);
        Due.due("undo as one", x.undo(), 9);
        cell("undone", x, 0, 0, 0);
    }

    private static void noTurns() {
        WidenedBanks x = row();
        x.plans(5, 0, 0, 0, 0);
        x.plans(1, 0, 1, 0, 0);
        x.plans(5, 4, 0, 0, 0);
        x.plans(1, 0, 1, 0, 0);
        x.plans(6, 0, 0, 0, 0);
        x.plans(6, 0, 0, 0, 0);
        x.plans(5, 9, 0, 0, 0);
        x.plans(6, 0, 0, 0, 0);
        x.plans(1, 0, 5, 0, 0);
        Due.due("only the last one", x.runs(), 1);
        cell("only the last one", x, 0, 0, 5);
        WidenedBanks z = row();
        z.plans(5, 0, 0, 0, 0);
        z.plans(1, 0, 1, 0, 0);
        z.plans(6, 0, 0, 0, 0);
        z.plans(1, 0, 5, 0, 0);
        z.plans(1, 0, 6, 0, 0);
        Due.due("right behind the END", z.runs(), 2);
        cell("right behind the END", z, 0, 0, 11);
        WidenedBanks y = row();
        for (int i = 0; i < 3; i++) {
            y.plans(5, 9, 0, 0, 0);
        }
        for (int i = 0; i < 3; i++) {
            y.plans(6, 0, 0, 0, 0);
        }
        y.undo();
        Due.due("729 turns without a STEP", y.runs(), 0);
        Due.due("that was not refused", y.count(5), 10);
    }

    private static void turnNumbers() {
        WidenedBanks x = row();
        x.plans(0, 0, 12, 0, 11);
        x.plans(0, 0, 13, 0, 10);
        x.plans(5, 2, 0, 0, 0);
        x.plans(1, 0, 13, 0, 12);
        x.plans(5, 3, 0, 0, 0);
        x.plans(5, 2, 0, 0, 0);
        x.plans(1, 0, 13, 0, 12);
        x.plans(6, 0, 0, 0, 0);
        x.plans(6, 0, 0, 0, 0);
        x.plans(6, 0, 0, 0, 0);
        Due.due("2 + 2 * (1 + 3 * 2)", x.runs(), 16);
        cell("12 outside of all is 0", x, 0, 11, 0);
        cell("13 outside of all is 0", x, 0, 10, 0);
        long[] want = {0, 1, 2, 3};
        for (int turn = 0; turn < 2; turn++) {
            want[turn] += want[0];
            for (int middle = 0; middle < 3; middle++) {
                for (int inner = 0; inner < 2; inner++) {
                    want[inner] += want[middle];
                }
            }
        }
        for (int i = 0; i < 4; i++) {
            cell("by turn numbers " + i, x, 0, i, want[i]);
        }
    }

    private static void spent() {
        WidenedBanks x = row();
        x.plans(5, 6, 0, 0, 0);
        x.plans(5, 5, 0, 0, 0);
        x.plans(1, 0, 1, 0, 0);
        x.plans(1, 0, 1, 0, 0);
        x.plans(6, 0, 0, 0, 0);
        x.plans(6, 0, 0, 0, 0);
        Due.due("60 STEPS", x.runs(), 60);
        cell("60 STEPS", x, 0, 0, 60);
        x.plans(1, 0, 1, 0, 0);
        int may = x.count(5);
        Due.due("the next one", x.runs(), WidenedBanks.SPENT);
        cell("changes nothing", x, 0, 0, 60);
        Due.due("nothing more to undo", x.count(5), may);
        x.modes(OUT, SKIP);
        x.drops();
        x.plans(5, 9, 0, 0, 0);
        x.plans(6, 0, 0, 0, 0);
        Due.due("TURNS and END do not count", x.runs(), 60);

        WidenedBanks y = row();
        y.modes(OUT, SKIP);
        y.plans(5, 9, 0, 0, 0);
        y.plans(5, 9, 0, 0, 0);
        y.plans(0, 1, 4, 1, 0);
        y.plans(6, 0, 0, 0, 0);
        y.plans(6, 0, 0, 0, 0);
        Due.due("refused ones count, too", y.runs(), WidenedBanks.SPENT);
        Due.due("and were MET", y.met(OUT), 60);
    }

    private static void stops() {
        WidenedBanks x = row();
        x.plans(0, 0, 5, 0, 0);
        x.plans(0, 1, 4, 0, 1);
        x.plans(0, 0, 6, 0, 2);
        int may = x.count(5);
        Due.due("stopped", x.runs(), WidenedBanks.OUT);
        cell("changes nothing", x, 0, 0, 0);
        Due.due("MET", x.met(OUT), 1);
        Due.due("nothing more to undo", x.count(5), may);
        Due.due("no undo is lost", x.undo(), may - 1);
    }

    /** One LINE for each refusal. */
    private static WidenedBanks allRefusals() {
        WidenedBanks x = new WidenedBanks();
        x.bank(5, 3);
        x.bank(11, 1);
        x.bank(12, 1);
        x.bank(8, 2);
        x.view(0, 0, 1, 4, 5);
        x.view(1, 0, 1, 1, 8);
        x.view(2, 0, 1, 1, 8);
        x.view(3, 0, 1, 2, 8);
        x.view(0, 0, 1, 4, 4);
        x.writes(0, 0, 5, 0, 1L << 60);
        x.plans(0, 0, 4, 0, 1);
        x.plans(0, 1, 0, 0, 1);
        x.plans(0, 2, 0, 0, 1);
        x.plans(0, 4, 0, 0, 1);
        x.plans(0, 0, 3, 0, 1);
        x.plans(0, 3, 0, 0, 1);
        x.plans(1, 0, 0, 0, 0);
        return x;
    }

    private static void skips() {
        for (int stop = 0; stop <= 6; stop++) {
            WidenedBanks x = allRefusals();
            for (int refusal = 0; refusal <= 6; refusal++) {
                x.modes(refusal, refusal == stop ? STOP : SKIP);
            }
            Due.due("refusal " + stop, x.runs(), WidenedBanks.OUT - stop);
            for (int refusal = 0; refusal <= 6; refusal++) {
                Due.due("refusal " + stop + " met " + refusal, x.met(refusal), refusal <= stop ? 1 : 0);
            }
            x.modes(stop, SKIP);
            Due.due("all are skipped", x.runs(), 7);
            Due.due("each is MET", x.met(stop), 1);
            x.modes(stop, LEAVE);
            Due.due("outside of all the RUN ends", x.runs(), stop + 1);
            Due.due("count", x.count(5), 3);
        }
    }

    private static void leaves() {
        WidenedBanks x = row();
        x.modes(OUT, LEAVE);
        x.plans(5, 9, 0, 0, 0);
        x.plans(0, 1, 12, 1, 12);
        x.plans(1, 0, 1, 0, 11);
        x.plans(6, 0, 0, 0, 0);
        x.plans(1, 0, 1, 0, 10);
        Due.due("4 turns, a half one, and one behind", x.runs(), 10);
        cell("4 turns", x, 0, 11, 15);
        cell("one behind", x, 0, 10, 11);
        Due.due("MET once", x.met(OUT), 1);
    }

    private static void leavesInner() {
        WidenedBanks x = row();
        x.modes(OUT, LEAVE);
        x.plans(5, 2, 0, 0, 0);
        x.plans(5, 9, 0, 0, 0);
        x.plans(0, 1, 12, 1, 12);
        x.plans(5, 1, 0, 0, 0);
        x.plans(6, 0, 0, 0, 0);
        x.plans(6, 0, 0, 0, 0);
        x.plans(1, 0, 1, 0, 11);
        x.plans(6, 0, 0, 0, 0);
        Due.due("only the innermost", x.runs(), 12);
        cell("once a turn about it", x, 0, 11, 13);
        Due.due("MET twice", x.met(OUT), 2);
    }

    private static void met() {
        WidenedBanks x = allRefusals();
        for (int refusal = 0; refusal <= 6; refusal++) {
            x.modes(refusal, SKIP);
            Due.due("before", x.met(refusal), 0);
        }
        x.runs();
        x.does(0, 0, 4, 0, 1);
        x.plans(5, 1, 0, 0, 0);
        Due.due("STATE", x.runs(), WidenedBanks.STATE);
        for (int refusal = 0; refusal <= 6; refusal++) {
            Due.due("the latest that was not STATE", x.met(refusal), 1);
        }
        x.drops();
        x.drops();
        x.runs();
        Due.due("anew", x.met(WIDE), 0);
        Due.due("anew", x.met(VOID), 1);
        Due.due("met(7)", x.met(7), WidenedBanks.BAD);
        Due.due("met(-1)", x.met(-1), WidenedBanks.BAD);
        Due.due("met(MIN)", x.met(MIN), WidenedBanks.BAD);
    }

    private static void tally(String what, WidenedBanks x, int... want) {
        for (int i = 0; i <= 6; i++) {
            Due.due(what + ": forecast(" + i + ")", x.forecast(i), want[i]);
        }
    }

    private static void forecastKinds() {
        WidenedBanks x = allRefusals();
        int may = x.count(5);
        // OUT, GONE, BARE, UNLIKE, PAST; NOTHING is OPEN; the sum is WELL, for WIDE hangs on NUMBERS.
        tally("one each", x, 1, 1, 1, 1, 1, 1, 1);
        Due.due("nothing changes", x.count(5), may);
        Due.due("nothing was MET", x.met(OUT), 0);
        for (int refusal = 0; refusal <= 6; refusal++) {
            x.modes(refusal, LEAVE);
        }
        tally("all LINES are gone through", x, 1, 1, 1, 1, 1, 1, 1);
    }

    private static void forecastOpen() {
        WidenedBanks x = new WidenedBanks();
        x.bank(8, 3);
        x.bank(4, 3);
        x.bank(9, 3);
        x.bank(10, 3);
        x.view(0, 0, 1, 4, 8);
        x.view(1, 0, 1, 3, 4);
        x.view(0, 0, 1, 3, 4);
        x.view(2, 0, 1, 3, 8);
        x.view(3, 0, 1, 3, 8);
        x.view(1, 0, 1, 3, 8);
        x.plans(0, 0, 0, 1, 0);
        tally("8", x, 0, 0, 0, 0, 0, 1, 0);
        x.plans(0, 3, 0, 1, 0);
        x.plans(0, 4, 0, 1, 0);
        tally("9, 10", x, 0, 0, 0, 0, 0, 3, 0);
        x.plans(0, 0, 0, 1, 5);
        tally("OPEN ahead of OUT where it is WRITTEN", x, 0, 0, 0, 0, 0, 4, 0);
        x.plans(0, 0, 4, 1, 0);
        tally("OUT where it is READ", x, 1, 0, 0, 0, 0, 4, 0);
        x.plans(0, 0, 3, 1, 0);
        tally("PAST where it is READ", x, 1, 0, 0, 0, 1, 4, 0);
        x.plans(0, 2, 0, 1, 0);
        tally("UNLIKE where it is READ", x, 1, 0, 0, 1, 1, 4, 0);
        x.plans(0, 5, 0, 0, 0);
        tally("4 BY 8 to 8", x, 1, 0, 0, 1, 1, 4, 1);
        x.plans(0, 5, 0, 4, 0);
        tally("4 BY 8 to 10", x, 1, 0, 0, 1, 1, 4, 2);
        x.plans(0, 5, 0, 3, 0);
        tally("4 BY 8 to 9", x, 1, 0, 0, 2, 1, 4, 2);
        x.plans(1, 1, 0, 0, 0);
        tally("SUM with OPEN b", x, 1, 0, 0, 2, 1, 5, 2);
        x.plans(1, 1, 3, 0, 0);
        tally("OUT of a ahead of OPEN b", x, 2, 0, 0, 2, 1, 5, 2);
        x.plans(4, 0, 0, 1, 3);
        tally("OPEN a ahead of OUT of b", x, 2, 0, 0, 2, 1, 6, 2);
        x.plans(3, 1, 0, 0, 4);
        tally("OUT of b", x, 3, 0, 0, 2, 1, 6, 2);
        x.plans(0, 4, 0, 0, 0);
        tally("10 to 8", x, 3, 0, 0, 2, 1, 7, 2);
    }

    private static void forecastSwapAndSum() {
        WidenedBanks x = new WidenedBanks();
        x.bank(3, 3);
        x.bank(5, 3);
        x.bank(0, 3);
        x.bank(8, 3);
        x.view(0, 0, 1, 3, 3);
        x.view(1, 0, 1, 3, 5);
        x.view(2, 0, 1, 3, 0);
        x.view(0, 0, 1, 3, 8);
        x.view(1, 0, 1, 3, 8);
        x.view(3, 0, 1, 3, 8);
        x.view(0, 0, 1, 3, 4);
        x.plans(4, 0, 0, 1, 0);
        tally("SWAPPED: 5 to 3", x, 0, 0, 0, 1, 0, 0, 0);
        x.plans(4, 0, 0, 0, 1);
        tally("SWAPPED: 3 and 3", x, 0, 0, 0, 1, 0, 0, 1);
        x.plans(4, 3, 0, 4, 0);
        tally("SWAPPED BY 8: 5 to 3", x, 0, 0, 0, 2, 0, 0, 1);
        x.plans(1, 0, 0, 1, 0);
        tally("3 and 5 into 5", x, 0, 0, 0, 2, 0, 0, 2);
        x.plans(1, 0, 0, 0, 1);
        tally("3 and 3 into 3", x, 0, 0, 0, 3, 0, 0, 2);
        x.plans(1, 3, 0, 4, 0);
        tally("3 and 5 BY 8 into 5", x, 0, 0, 0, 3, 0, 0, 3);
        x.plans(2, 2, 0, 1, 0);
        tally("0 and 5", x, 0, 0, 0, 4, 0, 0, 3);
        x.plans(3, 1, 0, 2, 0);
        tally("5 and 0", x, 0, 0, 0, 5, 0, 0, 3);
        x.plans(1, 2, 0, 5, 0);
        tally("0 and what is OPEN: b is READ ahead of that", x, 0, 0, 0, 5, 0, 1, 3);
        x.plans(0, 6, 0, 0, 1);
        tally("3 as 4 to 3", x, 0, 0, 0, 6, 0, 1, 3);
        x.plans(0, 6, 0, 1, 1);
        tally("3 as 4 to 5", x, 0, 0, 0, 6, 0, 1, 4);
        x.plans(0, 2, 0, 2, 1);
        tally("0 to 0", x, 0, 0, 0, 6, 0, 1, 5);
        x.plans(4, 2, 0, 2, 1);
        tally("0 and 0 SWAPPED", x, 0, 0, 0, 6, 0, 1, 6);
    }

    private static void forecastThroughViews() {
        WidenedBanks x = new WidenedBanks();
        x.bank(1, 3);
        x.bank(6, 3);
        x.bank(8, 3);
        x.view(0, 0, 1, 3, 3);
        x.view(10, 0, 1, 3, 8);
        x.view(11, 0, 1, 3, 8);
        x.view(1, 0, 1, 3, 8);
        x.view(1, 0, 1, 3, 7);
        x.view(14, 0, 1, 3, 8);
        x.view(0, 0, 1, 3, 7);
        x.view(16, 0, 1, 3, 8);
        x.plans(0, 2, 0, 3, 0);
        tally("1 as 3 BY 8 to 6", x, 0, 0, 0, 0, 0, 0, 1);
        x.plans(0, 2, 0, 1, 1);
        tally("1 as 3 BY 8 to 3, which hands it to 1", x, 0, 0, 0, 1, 0, 0, 1);
        x.plans(0, 5, 0, 3, 1);
        tally("6 as 7 BY 8 to 6", x, 0, 0, 0, 2, 0, 0, 1);
        x.plans(0, 7, 0, 3, 1);
        tally("1 as 7 BY 8 to 6", x, 0, 0, 0, 3, 0, 0, 1);
        x.plans(0, 2, 0, 5, 1);
        tally("3 BY 8 to 7, which hands it to 6", x, 0, 0, 0, 4, 0, 0, 1);
        x.plans(1, 2, 0, 3, 1);
        tally("3 and 6 into 6", x, 0, 0, 0, 4, 0, 0, 2);
    }

    private static void forecastTurns() {
        WidenedBanks x = row();
        x.plans(5, 6, 0, 0, 0);
        x.plans(0, 1, 12, 0, 0);
        x.plans(6, 0, 0, 0, 0);
        tally("places by turns", x, 2, 0, 0, 0, 0, 0, 4);
        x.plans(5, 9, 0, 0, 0);
        x.plans(5, 9, 0, 0, 0);
        x.plans(0, 0, 13, 0, 12);
        tally("open", x, -2, -2, -2, -2, -2, -2, -2);
        x.plans(6, 0, 0, 0, 0);
        x.plans(6, 0, 0, 0, 0);
        x.plans(0, 1, 11, 0, 0);
        tally("60 STEPS at most", x, 2, 0, 0, 0, 0, 0, 58);
    }

    private static void forecastBad() {
        WidenedBanks x = row();
        Due.due("forecast(7)", x.forecast(7), WidenedBanks.BAD);
        Due.due("forecast(-1)", x.forecast(-1), WidenedBanks.BAD);
        Due.due("forecast(MAX)", x.forecast(MAX), WidenedBanks.BAD);
        x.plans(5, 1, 0, 0, 0);
        Due.due("BAD ahead of STATE", x.forecast(7), WidenedBanks.BAD);
        Due.due("STATE", x.forecast(0), WidenedBanks.STATE);
    }
}
