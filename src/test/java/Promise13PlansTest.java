/** Promise 13: plans, with what the Terms say of LINES. */
public final class Promise13PlansTest extends Promise {
    public static void main(String[] args) {
        lineBounds();
        viewBounds();
        placeBounds();
        turnsBounds();
        turnsLetTheOthersBe();
        endLetsAllBe();
        answersLines();
        stateEndWithNoTurnsOpen();
        full16();
        fullAFourthWithin();
        turnsSideBySide();
        badAheadOfState();
        badAheadOfFull();
        stateAheadOfFull();
        refusedChangesNothing();
        Due.end();
    }

    private static void lineBounds() {
        for (int line : new int[] {-1, 7, 8, MIN, MAX}) {
            due("a LINE (0 .. 6): " + line, row().plans(line, 0, 0, 0, 0), BAD);
        }
        for (int line = 0; line <= 5; line++) {
            due("a LINE (0 .. 6): " + line, row().plans(line, 0, 0, 0, 0), 1);
        }
    }

    private static void viewBounds() {
        for (int step = 0; step <= 4; step++) {
            for (int view : new int[] {-1, 1, 8, MIN, MAX}) {
                due("no such VIEW a: " + view, row().plans(step, view, 0, 0, 0), BAD);
                due("no such VIEW b: " + view, row().plans(step, 0, 0, view, 0), BAD);
            }
            due("without VIEWS", new WidenedBanks().plans(step, 0, 0, 0, 0), BAD);
        }
        WidenedBanks x = States.full();
        x.drops();
        due("the eighth VIEW", x.plans(0, 7, 0, 7, 0), 16);
    }

    private static void placeBounds() {
        for (int step = 0; step <= 4; step++) {
            for (int place : new int[] {-1, 14, MIN, MAX}) {
                due("p 0 .. 13: " + place, row().plans(step, 0, place, 0, 0), BAD);
                due("q 0 .. 13: " + place, row().plans(step, 0, 0, 0, place), BAD);
            }
            for (int place : new int[] {0, 11, 12, 13}) {
                due("p 0 .. 13: " + place, row().plans(step, 0, place, 0, 0), 1);
                due("q 0 .. 13: " + place, row().plans(step, 0, 0, 0, place), 1);
            }
        }
    }

    private static void turnsBounds() {
        for (int times : new int[] {-1, 10, MIN, MAX}) {
            due("so many times (0 .. 9): " + times, row().plans(5, times, 0, 0, 0), BAD);
        }
        for (int times = 0; times <= 9; times++) {
            due("so many times (0 .. 9): " + times, row().plans(5, times, 0, 0, 0), 1);
        }
    }

    private static void turnsLetTheOthersBe() {
        for (int other : new int[] {-1, 14, MIN, MAX}) {
            due("TURNS let p be", new WidenedBanks().plans(5, 1, other, 0, 0), 1);
            due("TURNS let b be", new WidenedBanks().plans(5, 1, 0, other, 0), 1);
            due("TURNS let q be", new WidenedBanks().plans(5, 1, 0, 0, other), 1);
        }
    }

    private static void endLetsAllBe() {
        for (int other : new int[] {-1, 14, MIN, MAX}) {
            WidenedBanks x = new WidenedBanks();
            x.plans(5, 1, 0, 0, 0);
            due("END lets a, p, b, q be", x.plans(6, other, other, other, other), 2);
        }
    }

    private static void answersLines() {
        WidenedBanks x = row();
        due("LINES", x.plans(0, 0, 0, 0, 1), 1);
        due("LINES", x.plans(5, 3, 0, 0, 0), 2);
        due("LINES", x.plans(4, 0, 12, 0, 13), 3);
        due("LINES", x.plans(6, 0, 0, 0, 0), 4);
        due("count(2)", x.count(2), 4);
        due("one that was refused is none", x.plans(7, 0, 0, 0, 0), BAD);
        due("LINES", x.plans(1, 0, 0, 0, 1), 5);
    }

    private static void stateEndWithNoTurnsOpen() {
        WidenedBanks x = row();
        due("no LINES at all", x.plans(6, 0, 0, 0, 0), STATE);
        x.plans(0, 0, 0, 0, 1);
        due("no TURNS", x.plans(6, 0, 0, 0, 0), STATE);
        x.plans(5, 1, 0, 0, 0);
        due("END", x.plans(6, 0, 0, 0, 0), 3);
        due("no TURNS are open", x.plans(6, 0, 0, 0, 0), STATE);
        x.plans(5, 0, 0, 0, 0);
        x.plans(5, 0, 0, 0, 0);
        due("END of the inner ones", x.plans(6, 0, 0, 0, 0), 6);
        due("END of the outer ones", x.plans(6, 0, 0, 0, 0), 7);
        due("no TURNS are open", x.plans(6, 0, 0, 0, 0), STATE);
    }

    private static void full16() {
        WidenedBanks x = row();
        for (int line = 1; line <= 16; line++) {
            due("LINES", x.plans(0, 0, 0, 0, 1), line);
        }
        for (int step = 0; step <= 5; step++) {
            due("FULL: 16", x.plans(step, 0, 0, 0, 1), FULL);
        }
        due("16 LINES", x.count(2), 16);
        WidenedBanks y = row();
        y.plans(5, 1, 0, 0, 0);
        for (int line = 2; line <= 15; line++) {
            y.plans(0, 0, 0, 0, 1);
        }
        due("END as the 16th", y.plans(6, 0, 0, 0, 0), 16);
        WidenedBanks z = States.openAndFull();
        due("FULL: END as the 17th, TURNS are open", z.plans(6, 0, 0, 0, 0), FULL);
        due("they stay open", z.count(3), 3);
    }

    private static void fullAFourthWithin() {
        WidenedBanks x = row();
        due("TURNS", x.plans(5, 1, 0, 0, 0), 1);
        due("TURNS within", x.plans(5, 1, 0, 0, 0), 2);
        due("a third TURNS within", x.plans(5, 1, 0, 0, 0), 3);
        due("FULL: a fourth TURNS within", x.plans(5, 1, 0, 0, 0), FULL);
        due("FULL: a fourth, 0 times", x.plans(5, 0, 0, 0, 0), FULL);
        due("a STEP may be there", x.plans(0, 0, 0, 0, 1), 4);
        due("three are open", x.count(3), 3);
        due("END", x.plans(6, 0, 0, 0, 0), 5);
        due("a third TURNS again", x.plans(5, 1, 0, 0, 0), 6);
        due("FULL: a fourth again", x.plans(5, 1, 0, 0, 0), FULL);
    }

    private static void turnsSideBySide() {
        WidenedBanks x = row();
        for (int pair = 0; pair < 8; pair++) {
            due("TURNS", x.plans(5, 9, 0, 0, 0), 2 * pair + 1);
            due("END", x.plans(6, 0, 0, 0, 0), 2 * pair + 2);
        }
        due("FULL: 16", x.plans(5, 9, 0, 0, 0), FULL);
    }

    private static void badAheadOfState() {
        WidenedBanks x = row();
        due("END is never BAD", x.plans(6, MIN, MIN, MIN, MIN), STATE);
        due("7 is BAD", x.plans(7, 0, 0, 0, 0), BAD);
    }

    private static void badAheadOfFull() {
        WidenedBanks x = States.full();
        due("BAD ahead of FULL: LINE", x.plans(7, 0, 0, 0, 0), BAD);
        due("BAD ahead of FULL: LINE", x.plans(-1, 0, 0, 0, 0), BAD);
        due("BAD ahead of FULL: a", x.plans(0, 8, 0, 0, 0), BAD);
        due("BAD ahead of FULL: p", x.plans(0, 0, 14, 0, 0), BAD);
        due("BAD ahead of FULL: b", x.plans(0, 0, 0, 8, 0), BAD);
        due("BAD ahead of FULL: q", x.plans(0, 0, 0, 0, 14), BAD);
        due("BAD ahead of FULL: TURNS", x.plans(5, 10, 0, 0, 0), BAD);
        due("FULL", x.plans(5, 9, 0, 0, 0), FULL);
        WidenedBanks y = States.open();
        due("BAD ahead of FULL: a fourth TURNS", y.plans(5, 10, 0, 0, 0), BAD);
        due("BAD ahead of FULL: a fourth TURNS", y.plans(5, -1, 0, 0, 0), BAD);
        due("FULL: a fourth TURNS", y.plans(5, 9, 0, 0, 0), FULL);
    }

    private static void stateAheadOfFull() {
        WidenedBanks x = States.full();
        due("16 LINES, no TURNS open", x.plans(6, 0, 0, 0, 0), STATE);
    }

    private static void refusedChangesNothing() {
        Asked rich = new Asked(States::rich);
        rich.stands("BAD: LINE", BAD, x -> x.plans(7, 0, 0, 0, 0));
        rich.stands("BAD: a", BAD, x -> x.plans(0, 7, 0, 0, 0));
        rich.stands("BAD: p", BAD, x -> x.plans(0, 0, 14, 0, 0));
        rich.stands("BAD: b", BAD, x -> x.plans(4, 0, 0, 7, 0));
        rich.stands("BAD: q", BAD, x -> x.plans(4, 0, 0, 0, -1));
        rich.stands("BAD: times", BAD, x -> x.plans(5, 10, 0, 0, 0));
        rich.stands("STATE", STATE, x -> x.plans(6, 0, 0, 0, 0));
        new Asked(States::full).stands("FULL: 16", FULL, x -> x.plans(0, 0, 0, 0, 0));
        new Asked(States::open).stands("FULL: a fourth TURNS", FULL, x -> x.plans(5, 1, 0, 0, 0));
        new Asked(States::openAndFull).stands("FULL: END", FULL, x -> x.plans(6, 0, 0, 0, 0));
    }
}
