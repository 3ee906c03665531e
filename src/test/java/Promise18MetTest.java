/** Promise 18: met: "how often a refusal (0 .. 6) came in the latest runs() that was not STATE; 0 before. BAD." */
public final class Promise18MetTest extends Promise {
    public static void main(String[] args) {
        refusalBounds();
        zeroBefore();
        eachRefusalOnce();
        howOften();
        inTheLatest();
        thatWasNotState();
        inOneThatIsRefused();
        inOneThatIsSpent();
        inOneThatLeaves();
        onlyInRuns();
        stillMetBehindUndoBackAndDrops();
        undoOfTheLatestLeavesItTheLatest();
        refusedChangesNothing();
        Due.end();
    }

    private static void refusalBounds() {
        WidenedBanks x = Programs.ofEachRefusal();
        x.runs();
        for (int refusal : new int[] {-1, 7, OUT, WIDE, MIN, MAX}) {
            due("a refusal (0 .. 6): " + refusal, x.met(refusal), BAD);
        }
        due("a refusal (0 .. 6): 0", x.met(0), 1);
        due("a refusal (0 .. 6): 6", x.met(6), 0);
    }

    private static void each(String sentence, WidenedBanks x, int... want) {
        for (int refusal = 0; refusal <= 6; refusal++) {
            due(sentence + ": met(" + refusal + ")", x.met(refusal), want[refusal]);
        }
    }

    private static WidenedBanks skipping() {
        WidenedBanks x = Programs.ofEachRefusal();
        for (int refusal = 0; refusal <= 6; refusal++) {
            x.modes(refusal, SKIP);
        }
        return x;
    }

    private static void zeroBefore() {
        each("new", new WidenedBanks(), 0, 0, 0, 0, 0, 0, 0);
        each("LINES, no RUN", skipping(), 0, 0, 0, 0, 0, 0, 0);
        WidenedBanks x = skipping();
        Programs.turns(x, 1);
        due("STATE", x.runs(), STATE);
        each("0 before, but for STATE", x, 0, 0, 0, 0, 0, 0, 0);
    }

    private static void eachRefusalOnce() {
        WidenedBanks x = skipping();
        due("runs()", x.runs(), 7);
        each("each once", x, 1, 1, 1, 1, 1, 1, 1);
        for (int one = 6; one >= 0; one--) {
            x.drops();
            x.runs();
            due("without LINE " + one, x.met(one), 0);
        }
        each("no LINES", x, 0, 0, 0, 0, 0, 0, 0);
    }

    private static void howOften() {
        WidenedBanks x = row();
        x.view(0, 8, 1, 6, 4);
        x.modes(0, SKIP);
        x.modes(4, SKIP);
        Programs.turns(x, 9);
        x.plans(0, 1, 12, 1, 0);
        Programs.end(x);
        due("runs()", x.runs(), 9);
        // Places 0 .. 3 are CELLS 8 .. 11; 4, 5 are PAST; 6, 7, 8 are OUT.
        each("how often", x, 3, 0, 0, 0, 2, 0, 0);
    }

    private static void inTheLatest() {
        WidenedBanks x = skipping();
        x.runs();
        x.runs();
        each("not both together", x, 1, 1, 1, 1, 1, 1, 1);
        x.modes(3, STOP);
        due("runs()", x.runs(), UNLIKE);
        each("the latest, be it refused", x, 1, 1, 1, 1, 0, 0, 0);
        x.modes(3, LEAVE);
        x.modes(0, LEAVE);
        due("runs()", x.runs(), 1);
        each("the latest", x, 1, 0, 0, 0, 0, 0, 0);
    }

    private static void thatWasNotState() {
        WidenedBanks x = skipping();
        x.runs();
        Programs.turns(x, 1);
        due("STATE", x.runs(), STATE);
        due("STATE", x.runs(), STATE);
        each("that was not STATE", x, 1, 1, 1, 1, 1, 1, 1);
    }

    private static void inOneThatIsRefused() {
        WidenedBanks x = skipping();
        x.modes(6, STOP);
        due("runs()", x.runs(), WIDE);
        each("that stopped it, too", x, 1, 1, 1, 1, 1, 1, 1);
    }

    private static void inOneThatIsSpent() {
        WidenedBanks x = row();
        x.view(0, 0, 1, 1, 4);
        x.modes(0, SKIP);
        Programs.turns(x, 9);
        Programs.turns(x, 9);
        x.plans(0, 1, 1, 0, 0);
        x.plans(0, 0, 1, 0, 0);
        Programs.end(x);
        Programs.end(x);
        due("runs()", x.runs(), SPENT);
        each("30 of 60", x, 30, 0, 0, 0, 0, 0, 0);
    }

    private static void inOneThatLeaves() {
        WidenedBanks x = row();
        x.view(0, 0, 1, 1, 4);
        x.modes(0, LEAVE);
        Programs.turns(x, 4);
        Programs.turns(x, 9);
        x.plans(0, 1, 1, 0, 0);
        Programs.end(x);
        Programs.end(x);
        due("runs()", x.runs(), 4);
        each("once each turn about it", x, 4, 0, 0, 0, 0, 0, 0);
    }

    private static void onlyInRuns() {
        WidenedBanks x = skipping();
        due("does()", x.does(0, 0, 4, 0, 1), OUT);
        due("writes()", x.writes(1, 0, 4, 1, 0), GONE);
        due("reads()", x.reads(2, 0), BARE);
        due("copies()", x.copies(3, 0, 0), 3);
        x.forecast(0);
        each("only runs()", x, 0, 0, 0, 0, 0, 0, 0);
    }

    private static void stillMetBehindUndoBackAndDrops() {
        WidenedBanks x = skipping();
        x.keep(0);
        x.runs();
        x.undo();
        x.back(0);
        x.drops();
        x.modes(0, STOP);
        each("the latest", x, 1, 1, 1, 1, 1, 1, 1);
    }

    /** UNDONE is what runs() did to CELLS; it stays the latest runs(), and the one before it is not told again. */
    private static void undoOfTheLatestLeavesItTheLatest() {
        WidenedBanks x = row();
        x.view(0, 0, 1, 1, 4);
        x.modes(0, SKIP);
        x.plans(0, 1, 1, 0, 0);
        x.plans(0, 0, 1, 0, 2);
        due("the first", x.runs(), 2);
        each("the first", x, 1, 0, 0, 0, 0, 0, 0);
        x.plans(0, 1, 2, 0, 0);
        x.plans(0, 0, 3, 0, 4);
        due("the second", x.runs(), 4);
        each("the second", x, 2, 0, 0, 0, 0, 0, 0);
        due("one more may be", x.undo(), 1);
        cell("the second is UNDONE", x, 0, 4, 4, 4);
        each("the second is still the latest", x, 2, 0, 0, 0, 0, 0, 0);
        due("none more may be", x.undo(), 0);
        cell("the first is UNDONE", x, 0, 2, 4, 2);
        each("the second is still the latest", x, 2, 0, 0, 0, 0, 0, 0);
        due("none", x.undo(), STATE);
        each("behind a refused undo()", x, 2, 0, 0, 0, 0, 0, 0);
    }

    private static void refusedChangesNothing() {
        Asked rich = new Asked(States::rich);
        rich.stands("BAD: met(7)", BAD, x -> x.met(7));
        rich.stands("BAD: met(-1)", BAD, x -> x.met(-1));
    }
}
