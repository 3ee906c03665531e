/** Promise 17: line: "0 what it is (0 .. 6), 1 a, 2 p, 3 b, 4 q (of 5 only a; the others, those of 6: 0). BAD." */
public final class Promise17LineTest extends Promise {
    public static void main(String[] args) {
        lineBounds();
        whatBounds();
        eachPartOfAStep();
        of5OnlyA();
        of6AllAre0();
        allOf16();
        refusedChangesNothing();
        Due.end();
    }

    private static void lineBounds() {
        WidenedBanks x = row();
        for (int many = 0; many <= 16; many++) {
            due("LINE -1 of " + many, x.line(-1, 0), BAD);
            due("LINE " + many + " of " + many, x.line(many, 0), BAD);
            due("LINE 16 of " + many, x.line(16, 0), BAD);
            if (many > 0) {
                due("LINE 0 of " + many, x.line(0, 0), 4);
                due("the last of " + many, x.line(many - 1, 0), 4);
            }
            x.plans(4, 0, 0, 0, 0);
        }
        due("MIN", x.line(MIN, 0), BAD);
        due("MAX", x.line(MAX, 0), BAD);
    }

    private static void whatBounds() {
        WidenedBanks x = row();
        x.plans(4, 0, 7, 0, 8);
        for (int what : new int[] {-1, 5, MIN, MAX}) {
            due("what 0 .. 4: " + what, x.line(0, what), BAD);
        }
        due("what 0 .. 4: 0", x.line(0, 0), 4);
        due("what 0 .. 4: 4", x.line(0, 4), 8);
        x.plans(4, 0, 7, 0, 8);
        due("5 is not the next LINE's", x.line(0, 5), BAD);
        due("-1 is not the LINE's before", x.line(1, -1), BAD);
    }

    private static void parts(String sentence, WidenedBanks x, int line, int... want) {
        for (int what = 0; what < 5; what++) {
            due(sentence + ": line(" + line + ", " + what + ")", x.line(line, what), want[what]);
        }
    }

    private static void eachPartOfAStep() {
        WidenedBanks x = States.full();
        for (int line = x.count(2); line > 0; line--) {
            x.drops();
        }
        for (int step = 0; step <= 4; step++) {
            x.plans(step, 7, 12 + step % 2, step, 13 - step);
        }
        for (int step = 0; step <= 4; step++) {
            parts("a STEP", x, step, step, 7, 12 + step % 2, step, 13 - step);
        }
    }

    private static void of5OnlyA() {
        WidenedBanks x = new WidenedBanks();
        x.plans(5, 9, 1, 2, 3);
        x.plans(5, 0, MIN, MAX, -1);
        parts("of 5 only a", x, 0, 5, 9, 0, 0, 0);
        parts("of 5 only a", x, 1, 5, 0, 0, 0, 0);
    }

    private static void of6AllAre0() {
        WidenedBanks x = new WidenedBanks();
        x.plans(5, 9, 0, 0, 0);
        x.plans(6, 1, 2, 3, 4);
        parts("those of 6: 0", x, 1, 6, 0, 0, 0, 0);
        WidenedBanks y = row();
        y.plans(4, 0, 5, 0, 6);
        y.drops();
        y.plans(5, 9, 0, 0, 0);
        y.plans(4, 0, 5, 0, 6);
        y.drops();
        y.plans(6, MIN, MIN, MAX, MAX);
        parts("where a STEP was before", y, 0, 5, 9, 0, 0, 0);
        parts("where a STEP was before", y, 1, 6, 0, 0, 0, 0);
    }

    private static void allOf16() {
        WidenedBanks x = row();
        for (int line = 0; line < 16; line++) {
            x.plans(line % 5, 0, line % 14, 0, (line + 3) % 14);
        }
        for (int line = 0; line < 16; line++) {
            parts("of 16", x, line, line % 5, 0, line % 14, 0, (line + 3) % 14);
        }
    }

    private static void refusedChangesNothing() {
        Asked full = new Asked(States::full);
        full.stands("BAD: LINE 16", BAD, x -> x.line(16, 0));
        full.stands("BAD: LINE -1", BAD, x -> x.line(-1, 0));
        full.stands("BAD: what 5", BAD, x -> x.line(0, 5));
        full.stands("BAD: what -1", BAD, x -> x.line(0, -1));
    }
}
