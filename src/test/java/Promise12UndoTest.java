/** Promise 12: undo; UNDONE: "the latest writes(), does(), copies(), runs() that was not refused (10 are known, older ones are lost)". */
public final class Promise12UndoTest extends Promise {
    public static void main(String[] args) {
        stateNone();
        howManyMoreMayBe();
        tenAreKnown();
        olderOnesAreLost();
        manyOlderOnesAreLost();
        eachOfTheFour();
        whatWasNotRefusedAlone();
        aRefusedOneLosesNoOlderOne();
        thoseThatChangeNothing();
        nothingElseIsUndone();
        undoneOnesAreNotDoneAgain();
        behindUndoTenAgain();
        onlyCellsAreUndone();
        allBanksAreUndone();
        refusedChangesNothing();
        Due.end();
    }

    private static void stateNone() {
        due("STATE: none, new", new WidenedBanks().undo(), STATE);
        WidenedBanks x = row();
        due("STATE: none", x.undo(), STATE);
        x.writes(0, 0, 4, 0, 9);
        due("one", x.undo(), 0);
        due("STATE: none more", x.undo(), STATE);
        due("STATE: none more", x.undo(), STATE);
        cell("nothing changed", x, 0, 0, 4, 0);
    }

    private static void howManyMoreMayBe() {
        for (int many = 1; many <= 10; many++) {
            WidenedBanks x = row();
            for (int i = 1; i <= many; i++) {
                x.writes(0, 0, 4, 0, 100 + i);
            }
            for (int left = many - 1; left >= 0; left--) {
                due("how many more", x.undo(), left);
                due("count(5)", x.count(5), left);
                cell("what it had before", x, 0, 0, 4, left == 0 ? 0 : 100 + left);
            }
            due("STATE: none", x.undo(), STATE);
        }
    }

    /** CELL 0 had 0, then 1 .. many, each by a writes(). */
    private static WidenedBanks written(int many) {
        WidenedBanks x = row();
        for (int i = 1; i <= many; i++) {
            x.writes(0, 0, 4, 0, i);
        }
        return x;
    }

    private static void tenAreKnown() {
        WidenedBanks x = written(10);
        due("10 are known", x.count(5), 10);
        for (int left = 9; left >= 0; left--) {
            due("undo()", x.undo(), left);
        }
        cell("the first was UNDONE", x, 0, 0, 4, 0);
    }

    private static void olderOnesAreLost() {
        WidenedBanks x = written(11);
        due("10 are known", x.count(5), 10);
        for (int left = 9; left >= 0; left--) {
            due("undo()", x.undo(), left);
        }
        due("the first is lost", x.undo(), STATE);
        cell("the first is lost", x, 0, 0, 4, 1);
    }

    private static void manyOlderOnesAreLost() {
        for (int many : new int[] {12, 19, 20, 21, 35}) {
            WidenedBanks x = written(many);
            for (int left = 9; left >= 0; left--) {
                due("undo()", x.undo(), left);
                cell("one before", x, 0, 0, 4, many - 10 + left);
            }
            due("none more", x.undo(), STATE);
        }
    }

    private static void eachOfTheFour() {
        WidenedBanks x = row();
        x.view(0, 1, 1, 11, 4);
        x.plans(0, 0, 11, 0, 0);
        x.plans(0, 0, 10, 0, 1);
        x.writes(0, 0, 4, 0, 50);
        x.does(4, 0, 0, 0, 3);
        x.copies(1, 0, 0);
        x.runs();
        cells("all four", x, 0, 11, 11, 50, 4, 5, 6, 7, 8, 9, 10, 11, 11);
        due("runs() UNDONE, both STEPS", x.undo(), 3);
        cells("runs() UNDONE", x, 0, 1, 2, 50, 4, 5, 6, 7, 8, 9, 10, 11, 11);
        due("copies() UNDONE", x.undo(), 2);
        cells("copies() UNDONE", x, 0, 3, 1, 2, 50, 4, 5, 6, 7, 8, 9, 10, 11);
        due("does() UNDONE", x.undo(), 1);
        cells("does() UNDONE", x, 0, 50, 1, 2, 3, 4);
        due("writes() UNDONE", x.undo(), 0);
        cells("writes() UNDONE", x, 0, 0, 1, 2, 3, 4, 5, 6, 7, 8, 9, 10, 11);
    }

    private static void whatWasNotRefusedAlone() {
        WidenedBanks x = row();
        x.view(0, 0, 1, 12, 3);
        x.writes(0, 0, 4, 0, 50);
        x.writes(0, 0, 5, 0, 51);
        x.writes(0, 12, 4, 0, 51);
        x.does(0, 1, 0, 0, 1);
        x.does(5, 0, 0, 0, 1);
        x.copies(0, 0, 3);
        x.plans(0, 0, 1, 0, 2);
        x.plans(0, 1, 0, 0, 1);
        due("a RUN that is refused", x.runs(), UNLIKE);
        x.plans(5, 1, 0, 0, 0);
        due("a RUN that is refused", x.runs(), STATE);
        due("only the first was not refused", x.count(5), 1);
        due("it is UNDONE", x.undo(), 0);
        cell("it is UNDONE", x, 0, 0, 4, 0);
    }

    private static void aRefusedOneLosesNoOlderOne() {
        WidenedBanks x = written(10);
        x.view(0, 0, 1, 12, 3);
        x.writes(0, 0, 5, 0, 51);
        x.does(0, 1, 0, 0, 1);
        x.copies(0, 0, 3);
        x.plans(0, 0, 1, 0, 2);
        x.plans(0, 1, 0, 0, 1);
        due("a RUN that is refused", x.runs(), UNLIKE);
        x.drops();
        x.plans(5, 9, 0, 0, 0);
        x.plans(5, 9, 0, 0, 0);
        x.plans(0, 0, 1, 0, 0);
        x.plans(6, 0, 0, 0, 0);
        x.plans(6, 0, 0, 0, 0);
        due("a RUN that is SPENT", x.runs(), SPENT);
        for (int left = 9; left >= 0; left--) {
            due("undo()", x.undo(), left);
            cell("one before", x, 0, 0, 4, left);
        }
    }

    private static void thoseThatChangeNothing() {
        WidenedBanks x = row();
        x.view(0, 0, 1, 12, 3);
        x.writes(0, 5, 4, 0, 5);
        due("writes() of what was there", x.count(5), 1);
        x.does(0, 0, 5, 0, 5);
        due("does() onto itself", x.count(5), 2);
        x.copies(0, 1, 0);
        due("copies(), all skipped", x.count(5), 3);
        due("runs() without LINES", x.runs(), 0);
        due("runs() without LINES", x.count(5), 4);
        x.modes(3, SKIP);
        x.plans(0, 0, 0, 1, 1);
        due("runs(), all skipped", x.runs(), 1);
        due("runs(), all skipped", x.count(5), 5);
        x.writes(0, 5, 4, 0, 6);
        due("undo()", x.undo(), 5);
        cell("UNDONE", x, 0, 5, 4, 5);
        for (int left = 4; left >= 0; left--) {
            due("each is one", x.undo(), left);
        }
    }

    private static void nothingElseIsUndone() {
        WidenedBanks x = written(3);
        x.reads(0, 0);
        x.looks(0, 0);
        x.bank(4, 1);
        x.view(1, 0, 1, 1, 4);
        x.keep(1);
        x.modes(2, 1);
        x.plans(0, 0, 0, 0, 1);
        x.forecast(6);
        x.wave(0);
        x.reorders();
        x.drops();
        x.sees(0, 0);
        x.forget();
        x.would(0, 0, 4);
        x.safe(0, 0);
        due("three", x.count(5), 3);
        due("the latest writes()", x.undo(), 2);
        cell("the latest writes()", x, 0, 0, 4, 2);
    }

    private static void undoneOnesAreNotDoneAgain() {
        WidenedBanks x = written(2);
        due("undo()", x.undo(), 1);
        due("undo() goes on, and is none to be UNDONE", x.undo(), 0);
        cell("as at first", x, 0, 0, 4, 0);
        due("none", x.undo(), STATE);
    }

    private static void behindUndoTenAgain() {
        WidenedBanks x = written(13);
        for (int i = 0; i < 4; i++) {
            x.undo();
        }
        cell("9", x, 0, 0, 4, 9);
        for (int i = 20; i < 23; i++) {
            x.writes(0, 0, 4, 0, i);
        }
        due("9 are known", x.count(5), 9);
        x.writes(0, 0, 4, 0, 23);
        due("10 are known", x.count(5), 10);
        x.writes(0, 0, 4, 0, 24);
        due("10 are known", x.count(5), 10);
        long[] want = {23, 22, 21, 20, 9, 8, 7, 6, 5, 4};
        for (int i = 0; i < 10; i++) {
            due("undo()", x.undo(), 9 - i);
            cell("one before", x, 0, 0, 4, want[i]);
        }
        due("none more", x.undo(), STATE);
    }

    private static void onlyCellsAreUndone() {
        WidenedBanks x = written(1);
        x.view(0, 0, 1, 12, 3);
        x.modes(3, SKIP);
        x.plans(0, 1, 0, 0, 1);
        x.runs();
        x.reads(0, 7);
        x.undo();
        due("VIEWS", x.count(1), 2);
        due("LINES", x.count(2), 1);
        due("MET in the latest runs()", x.met(3), 1);
        due("MODE", x.modes(3, 0), SKIP);
        told("what was told", x, 4, 7);
    }

    private static void allBanksAreUndone() {
        WidenedBanks x = new WidenedBanks();
        for (int bank = 0; bank < 6; bank++) {
            x.bank(8, 12);
            x.view(bank, 0, 1, 12, 8);
            x.writes(bank, 11, 9, 1, bank);
        }
        x.modes(5, SKIP);
        for (int bank = 0; bank < 6; bank++) {
            x.plans(0, bank, 0, bank, 11);
        }
        due("runs()", x.runs(), 6);
        for (int bank = 0; bank < 6; bank++) {
            cell("NOTHING now", x, bank, 11, NONE, 0);
        }
        due("undo()", x.undo(), 6);
        for (int bank = 0; bank < 6; bank++) {
            cell("the NAME again", x, bank, 11, 9, bank);
        }
        due("the write in the sixth", x.undo(), 5);
        cell("NOTHING at first", x, 5, 11, NONE, 0);
        cell("the fifth is let be", x, 4, 11, 9, 4);
    }

    private static void refusedChangesNothing() {
        new Asked(States::bare).stands("STATE: none", STATE, WidenedBanks::undo);
        new Asked(WidenedBanks::new).stands("STATE: none, new", STATE, WidenedBanks::undo);
        Asked behindBack = new Asked(() -> {
            WidenedBanks x = States.full();
            x.back(0);
            return x;
        });
        behindBack.stands("STATE: none behind back()", STATE, WidenedBanks::undo);
    }
}
