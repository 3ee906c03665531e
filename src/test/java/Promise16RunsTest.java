/** Promise 16: runs, with what the Terms say of RUN, TURNS, places 12 and 13. */
public final class Promise16RunsTest extends Promise {
    public static void main(String[] args) {
        noLinesAtAll();
        linesInTheirOrder();
        stateTurnsAreOpen();
        turnsOf0Times();
        turnsOf0TimesAboutOthers();
        turnsOf1And9Times();
        turnsWithoutSteps();
        turnsAndEndsDoNotCount();
        place12();
        place13();
        places12And13OutsideOfTurns();
        place13InOneTurns();
        placesInThreeTurns();
        placesBehindTurns();
        turnsBeginAnew();
        the60thStep();
        spentByTheNext();
        refusedOnesCount();
        the60thStepRefused();
        spentAheadOfTheRefusalOfTheNext();
        leaveAtThe60th();
        stoppedByEach();
        skippedEach();
        leaveOutsideOfAllTurns();
        leaveTurns();
        leaveOnlyTheInnermost();
        leaveTurnsAtTheLastLine();
        leaveAboutTurnsThatFollow();
        refusedChangesNothingButMet();
        stateChangesNothing();
        Due.end();
    }

    private static void noLinesAtAll() {
        WidenedBanks x = row();
        due("no LINES", x.runs(), 0);
        due("that was not refused", x.count(5), 1);
        due("no LINES, no BANKS", new WidenedBanks().runs(), 0);
    }

    private static void linesInTheirOrder() {
        WidenedBanks x = row();
        x.plans(0, 0, 5, 0, 0);
        x.plans(1, 0, 0, 0, 1);
        x.plans(0, 0, 1, 0, 5);
        due("STEPS", x.runs(), 3);
        cells("in their order", x, 0, 5, 6, 2, 3, 4, 6);
    }

    private static void stateTurnsAreOpen() {
        WidenedBanks x = row();
        for (int open = 1; open <= 3; open++) {
            Programs.turns(x, 0);
            due("TURNS are open", x.runs(), STATE);
        }
        for (int open = 2; open >= 1; open--) {
            Programs.end(x);
            due("TURNS are open", x.runs(), STATE);
        }
        Programs.end(x);
        due("none are open", x.runs(), 0);
        due("STATE is ahead of a refusal", States.open().runs(), STATE);
    }

    private static void turnsOf0Times() {
        WidenedBanks x = row();
        Programs.turns(x, 0);
        x.plans(0, 0, 11, 0, 0);
        Programs.end(x);
        x.plans(0, 0, 7, 0, 1);
        due("0 times", x.runs(), 1);
        cells("only what is behind them", x, 0, 0, 7);
        WidenedBanks y = row();
        Programs.turns(y, 0);
        y.plans(0, 0, 11, 0, 0);
        Programs.end(y);
        due("0 times, as the last", y.runs(), 0);
        cells("nothing", y, 0, 0, 1);
    }

    private static void turnsOf0TimesAboutOthers() {
        WidenedBanks x = row();
        Programs.turns(x, 0);
        Programs.turns(x, 2);
        x.plans(1, 0, 1, 0, 0);
        Programs.end(x);
        x.plans(1, 0, 1, 0, 0);
        Programs.turns(x, 2);
        Programs.end(x);
        x.plans(1, 0, 1, 0, 0);
        Programs.end(x);
        x.plans(1, 0, 2, 0, 0);
        due("on behind their own END", x.runs(), 1);
        cell("on behind their own END", x, 0, 0, 4, 2);
        WidenedBanks y = row();
        Programs.turns(y, 3);
        Programs.turns(y, 0);
        y.plans(1, 0, 1, 0, 0);
        Programs.end(y);
        y.plans(1, 0, 2, 0, 0);
        Programs.end(y);
        due("0 times within 3", y.runs(), 3);
        cell("0 times within 3", y, 0, 0, 4, 6);
    }

    private static void turnsOf1And9Times() {
        for (int times = 0; times <= 9; times++) {
            WidenedBanks x = row();
            Programs.turns(x, times);
            x.plans(1, 0, 1, 0, 0);
            x.plans(1, 0, 2, 0, 0);
            Programs.end(x);
            due("so many times", x.runs(), 2 * times);
            cell("so many times", x, 0, 0, 4, 3 * times);
        }
        WidenedBanks y = row();
        Programs.turns(y, 3);
        y.plans(1, 0, 1, 0, 0);
        Programs.turns(y, 2);
        y.plans(1, 0, 10, 0, 0);
        Programs.turns(y, 2);
        y.plans(1, 0, 11, 0, 0);
        Programs.end(y);
        Programs.end(y);
        Programs.end(y);
        due("three in one another", y.runs(), 3 * (1 + 2 * (1 + 2)));
        cell("three in one another", y, 0, 0, 4, 3 * (1 + 2 * (10 + 2 * 11)));
    }

    private static void turnsWithoutSteps() {
        WidenedBanks x = row();
        for (int i = 0; i < 3; i++) {
            Programs.turns(x, 9);
        }
        for (int i = 0; i < 3; i++) {
            Programs.end(x);
        }
        due("729 turns, no STEP", x.runs(), 0);
        x.plans(0, 0, 5, 0, 0);
        due("and one behind them", x.runs(), 1);
    }

    private static void turnsAndEndsDoNotCount() {
        WidenedBanks x = row();
        Programs.turns(x, 9);
        Programs.turns(x, 9);
        Programs.end(x);
        x.plans(1, 0, 1, 0, 0);
        Programs.end(x);
        due("STEPS alone count", x.runs(), 9);
    }

    private static void place12() {
        WidenedBanks x = row();
        Programs.turns(x, 9);
        x.plans(0, 0, 12, 0, 11);
        x.plans(1, 0, 12, 0, 10);
        Programs.end(x);
        due("9 turns", x.runs(), 18);
        cell("p: 0 on, up to 8", x, 0, 11, 4, 8);
        cell("p: 0 on, up to 8", x, 0, 10, 4, 10 + 36);
        WidenedBanks y = row();
        Programs.turns(y, 3);
        y.plans(0, 0, 11, 0, 12);
        Programs.end(y);
        due("3 turns", y.runs(), 3);
        cells("q: 0 on", y, 0, 11, 11, 11, 3, 4);
        WidenedBanks z = row();
        z.bank(4, 12);
        z.view(1, 0, 1, 12, 4);
        Programs.turns(z, 4);
        z.plans(0, 0, 12, 1, 12);
        Programs.end(z);
        due("both", z.runs(), 4);
        cells("both", z, 1, 0, 1, 2, 3, 0);
    }

    private static void place13() {
        WidenedBanks x = row();
        x.bank(4, 12);
        x.view(1, 0, 1, 12, 4);
        Programs.turns(x, 3);
        Programs.turns(x, 2);
        x.plans(1, 0, 13, 1, 12);
        Programs.end(x);
        Programs.end(x);
        due("3 about 2", x.runs(), 6);
        cells("p 13: those about these", x, 1, 3, 3, 0);
        WidenedBanks y = row();
        y.bank(4, 12);
        y.view(1, 0, 1, 12, 4);
        Programs.turns(y, 3);
        Programs.turns(y, 2);
        y.plans(1, 0, 12, 1, 13);
        Programs.end(y);
        Programs.end(y);
        due("3 about 2", y.runs(), 6);
        cells("q 13: those about these", y, 1, 1, 1, 1, 0);
    }

    private static void places12And13OutsideOfTurns() {
        for (int place = 12; place <= 13; place++) {
            WidenedBanks x = row();
            x.writes(0, 0, 4, 0, 77);
            x.plans(0, 0, place, 0, 5);
            x.plans(0, 0, 6, 0, place);
            due("no TURNS", x.runs(), 2);
            cells("p is 0, q is 0", x, 0, 6, 1, 2, 3, 4, 77, 6);
        }
    }

    private static void place13InOneTurns() {
        WidenedBanks x = row();
        x.writes(0, 0, 4, 0, 77);
        Programs.turns(x, 3);
        x.plans(0, 0, 13, 0, 12);
        Programs.end(x);
        due("none about these", x.runs(), 3);
        cells("13 is 0", x, 0, 77, 77, 77, 3);
    }

    private static void placesInThreeTurns() {
        WidenedBanks x = row();
        x.bank(4, 12);
        x.view(1, 0, 1, 12, 4);
        Programs.turns(x, 2);
        Programs.turns(x, 3);
        Programs.turns(x, 4);
        x.plans(0, 0, 13, 1, 12);
        Programs.end(x);
        x.plans(1, 0, 13, 1, 11);
        x.plans(1, 0, 12, 1, 10);
        Programs.end(x);
        x.plans(1, 0, 12, 1, 9);
        x.plans(1, 0, 13, 1, 8);
        Programs.end(x);
        due("STEPS", x.runs(), 2 * (3 * (4 + 2) + 2));
        // Innermost: 12 is theirs, 13 the middle ones'. Behind their END: 12 the middle ones', 13 the outer ones'.
        cells("by the innermost", x, 1, 2, 2, 2, 2, 0, 0, 0, 0, 0, 1, 6, 3);
    }

    private static void placesBehindTurns() {
        WidenedBanks x = row();
        x.writes(0, 0, 4, 0, 50);
        Programs.turns(x, 4);
        x.plans(0, 0, 12, 0, 11);
        Programs.end(x);
        x.plans(0, 0, 12, 0, 10);
        due("STEPS", x.runs(), 5);
        cell("the last turn", x, 0, 11, 4, 3);
        cell("outside again", x, 0, 10, 4, 50);
    }

    private static void turnsBeginAnew() {
        WidenedBanks x = row();
        x.bank(4, 12);
        x.view(1, 0, 1, 12, 4);
        Programs.turns(x, 2);
        Programs.turns(x, 3);
        x.plans(1, 0, 12, 1, 0);
        Programs.end(x);
        Programs.end(x);
        due("STEPS", x.runs(), 6);
        cell("0, 1, 2 twice", x, 1, 0, 4, 6);
        due("another RUN", x.runs(), 6);
        cell("0, 1, 2 four times", x, 1, 0, 4, 12);
    }

    /** turns times 6 STEPS, and some more, each of which adds 1 to CELL 0. */
    private static WidenedBanks counting(int turns, int more) {
        WidenedBanks x = row();
        Programs.turns(x, turns);
        for (int i = 0; i < 6; i++) {
            x.plans(1, 0, 1, 0, 0);
        }
        Programs.end(x);
        for (int i = 0; i < more; i++) {
            x.plans(1, 0, 1, 0, 0);
        }
        return x;
    }

    private static void the60thStep() {
        WidenedBanks x = counting(9, 6);
        due("60 STEPS", x.runs(), 60);
        cell("60 STEPS", x, 0, 0, 4, 60);
        due("one to be UNDONE", x.undo(), 0);
        cell("all UNDONE", x, 0, 0, 4, 0);
        WidenedBanks y = counting(9, 5);
        due("59 STEPS", y.runs(), 59);
        Programs.turns(y, 0);
        due("TURNS are open", y.runs(), STATE);
        WidenedBanks z = counting(9, 6);
        Programs.turns(z, 9);
        Programs.end(z);
        due("60 STEPS, and TURNS behind them", z.runs(), 60);
        WidenedBanks w = counting(9, 5);
        Programs.turns(w, 0);
        w.plans(1, 0, 1, 0, 0);
        Programs.end(w);
        due("59 STEPS, and one 0 times", w.runs(), 59);
    }

    private static void spentByTheNext() {
        WidenedBanks x = counting(9, 7);
        due("the 61st: SPENT", x.runs(), SPENT);
        cell("nothing changed", x, 0, 0, 4, 0);
        due("nothing to be UNDONE", x.count(5), 0);
        x.drops();
        due("60 STEPS", x.runs(), 60);
        WidenedBanks y = row();
        for (int i = 0; i < 3; i++) {
            Programs.turns(y, 9);
        }
        y.plans(1, 0, 1, 0, 0);
        for (int i = 0; i < 3; i++) {
            Programs.end(y);
        }
        due("729 STEPS: SPENT", y.runs(), SPENT);
        cell("nothing changed", y, 0, 0, 4, 0);
        for (int refusal = 0; refusal <= 6; refusal++) {
            y.modes(refusal, SKIP);
        }
        due("SPENT has no MODE", y.runs(), SPENT);
    }

    private static void refusedOnesCount() {
        WidenedBanks x = row();
        x.view(0, 0, 1, 1, 4);
        x.modes(0, SKIP);
        Programs.turns(x, 6);
        for (int i = 0; i < 10; i++) {
            x.plans(0, 1, 1, 0, 0);
        }
        Programs.end(x);
        due("60 refused ones", x.runs(), 60);
        due("MET", x.met(0), 60);
        x.plans(0, 1, 1, 0, 0);
        due("the next one", x.runs(), SPENT);
        due("MET", x.met(0), 60);
    }

    private static void the60thStepRefused() {
        WidenedBanks x = counting(9, 5);
        x.view(0, 0, 1, 1, 4);
        x.plans(0, 1, 1, 0, 0);
        due("the 60th stops", x.runs(), OUT);
        due("MET", x.met(0), 1);
        cell("nothing changed", x, 0, 0, 4, 0);
        x.modes(0, SKIP);
        due("the 60th is skipped", x.runs(), 60);
        cell("59 are done", x, 0, 0, 4, 59);
        x.plans(0, 1, 1, 0, 0);
        due("and the next one", x.runs(), SPENT);
    }

    private static void spentAheadOfTheRefusalOfTheNext() {
        WidenedBanks x = counting(9, 6);
        x.view(0, 0, 1, 1, 4);
        x.plans(0, 1, 1, 0, 0);
        due("the 61st would be OUT", x.runs(), SPENT);
        due("it was not MET", x.met(0), 0);
        x.modes(0, LEAVE);
        due("whatever its MODE", x.runs(), SPENT);
    }

    private static void leaveAtThe60th() {
        WidenedBanks x = counting(9, 5);
        x.view(0, 0, 1, 1, 4);
        x.plans(0, 1, 1, 0, 0);
        x.plans(1, 0, 1, 0, 0);
        x.modes(0, LEAVE);
        due("the RUN ends by the 60th", x.runs(), 60);
        cell("59 are done", x, 0, 0, 4, 59);
        WidenedBanks y = row();
        y.view(0, 0, 1, 1, 4);
        y.modes(0, LEAVE);
        Programs.turns(y, 9);
        for (int i = 0; i < 6; i++) {
            y.plans(1, 0, 1, 0, 0);
        }
        Programs.end(y);
        for (int i = 0; i < 4; i++) {
            y.plans(1, 0, 1, 0, 0);
        }
        Programs.turns(y, 9);
        y.plans(1, 0, 1, 0, 0);
        y.plans(0, 1, 1, 0, 0);
        Programs.end(y);
        due("TURNS are left by the 60th", y.runs(), 60);
        cell("59 are done", y, 0, 0, 4, 59);
    }

    private static void stoppedByEach() {
        int[] stops = {OUT, GONE, BARE, UNLIKE, PAST, VOID, WIDE};
        for (int one = 0; one <= 6; one++) {
            WidenedBanks x = Programs.ofEachRefusal();
            for (int refusal = 0; refusal < one; refusal++) {
                x.modes(refusal, SKIP);
            }
            due("the refusal that stopped it", x.runs(), stops[one]);
            due("not to be UNDONE", x.count(5), 1);
            for (int refusal = 0; refusal <= 6; refusal++) {
                due("MET " + refusal, x.met(refusal), refusal <= one ? 1 : 0);
            }
        }
    }

    private static void skippedEach() {
        WidenedBanks x = Programs.ofEachRefusal();
        for (int refusal = 0; refusal <= 6; refusal++) {
            x.modes(refusal, SKIP);
        }
        x.plans(0, 0, 0, 0, 1);
        due("on with the next LINE", x.runs(), 8);
        cells("the last LINE", x, 0, EDGE, EDGE, 0);
        due("to be UNDONE", x.count(5), 2);
    }

    private static void leaveOutsideOfAllTurns() {
        for (int one = 0; one <= 6; one++) {
            WidenedBanks x = Programs.ofEachRefusal();
            for (int refusal = 0; refusal <= 6; refusal++) {
                x.modes(refusal, refusal == one ? LEAVE : SKIP);
            }
            x.plans(0, 0, 0, 0, 1);
            due("the RUN ends", x.runs(), one + 1);
            cells("the last LINE is not reached", x, 0, EDGE, 0, 0);
            due("that was not refused", x.count(5), 2);
        }
        WidenedBanks y = row();
        y.view(0, 0, 1, 1, 4);
        y.modes(0, LEAVE);
        y.plans(1, 0, 1, 0, 0);
        y.plans(0, 1, 1, 0, 0);
        y.plans(1, 0, 1, 0, 0);
        due("what was done is done", y.runs(), 2);
        cell("what was done is done", y, 0, 0, 4, 1);
    }

    private static void leaveTurns() {
        WidenedBanks x = row();
        x.view(0, 0, 1, 4, 4);
        x.modes(0, LEAVE);
        Programs.turns(x, 9);
        x.plans(0, 1, 12, 1, 12);
        x.plans(1, 0, 1, 0, 11);
        Programs.end(x);
        x.plans(1, 0, 1, 0, 10);
        due("4 turns, the first STEP of the fifth, one behind", x.runs(), 4 * 2 + 1 + 1);
        cell("4 turns", x, 0, 11, 4, 15);
        cell("on behind the END", x, 0, 10, 4, 11);
        due("MET", x.met(0), 1);
    }

    private static void leaveOnlyTheInnermost() {
        WidenedBanks x = row();
        x.view(0, 0, 1, 2, 4);
        x.modes(0, LEAVE);
        Programs.turns(x, 3);
        Programs.turns(x, 9);
        x.plans(0, 1, 12, 1, 12);
        Programs.end(x);
        x.plans(1, 0, 1, 0, 11);
        x.plans(0, 0, 12, 0, 10);
        Programs.end(x);
        due("3 times 3 and 2", x.runs(), 15);
        cell("those about these go on", x, 0, 11, 4, 14);
        cell("12 is the outer ones' again", x, 0, 10, 4, 2);
        due("MET", x.met(0), 3);
    }

    private static void leaveTurnsAtTheLastLine() {
        WidenedBanks x = row();
        x.view(0, 0, 1, 1, 4);
        x.modes(0, LEAVE);
        Programs.turns(x, 5);
        x.plans(1, 0, 1, 0, 0);
        x.plans(0, 1, 1, 0, 0);
        Programs.end(x);
        due("left in the first turn, the RUN is at its end", x.runs(), 2);
        cell("once", x, 0, 0, 4, 1);
    }

    private static void leaveAboutTurnsThatFollow() {
        WidenedBanks x = row();
        x.view(0, 0, 1, 1, 4);
        x.modes(0, LEAVE);
        Programs.turns(x, 5);
        x.plans(0, 1, 1, 0, 0);
        Programs.turns(x, 2);
        x.plans(1, 0, 1, 0, 0);
        Programs.end(x);
        Programs.turns(x, 2);
        Programs.end(x);
        Programs.end(x);
        x.plans(1, 0, 2, 0, 0);
        due("their own END, not one within them", x.runs(), 2);
        cell("on behind their own END", x, 0, 0, 4, 2);
    }

    private static void refusedChangesNothingButMet() {
        Asked stopped = new Asked(() -> {
            WidenedBanks x = States.rich();
            x.plans(0, 6, 0, 0, 0);
            return x;
        });
        stopped.standsButMet("GONE stops, behind STEPS that were done", GONE);
        Asked spent = new Asked(() -> {
            WidenedBanks x = States.rich();
            Programs.turns(x, 9);
            Programs.turns(x, 9);
            x.plans(1, 0, 1, 0, 0);
            Programs.end(x);
            Programs.end(x);
            return x;
        });
        spent.standsButMet("SPENT", SPENT);
        Asked wide = new Asked(() -> {
            WidenedBanks x = States.rich();
            x.plans(0, 5, 1, 5, 2);
            x.plans(1, 5, 1, 5, 1);
            return x;
        });
        wide.standsButMet("WIDE", WIDE);
        WidenedBanks y = States.rich();
        due("MET before", y.met(4), 2);
        y.plans(0, 6, 0, 0, 0);
        due("GONE stops", y.runs(), GONE);
        due("MET: PAST twice again", y.met(4), 2);
        due("MET: GONE", y.met(1), 1);
    }

    private static void stateChangesNothing() {
        new Asked(States::open).stands("STATE: TURNS are open", STATE, WidenedBanks::runs);
        new Asked(States::openAndFull).stands("STATE: TURNS are open", STATE, WidenedBanks::runs);
    }
}
