/** Promise 15: modes: "The MODE (0 .. 2) of a refusal (0 OUT, .. 6 WIDE): what it was. BAD." */
public final class Promise15ModesTest extends Promise {
    public static void main(String[] args) {
        refusalBounds();
        modeBounds();
        whatItWas();
        eachOfItsOwn();
        whichRefusalIsWhich();
        refusedChangesNothing();
        Due.end();
    }

    private static void refusalBounds() {
        for (int refusal : new int[] {-1, 7, OUT, MIN, MAX}) {
            due("a refusal (0 .. 6): " + refusal, new WidenedBanks().modes(refusal, 1), BAD);
        }
        due("a refusal (0 .. 6): 0", new WidenedBanks().modes(0, 1), 0);
        due("a refusal (0 .. 6): 6", new WidenedBanks().modes(6, 1), 0);
    }

    private static void modeBounds() {
        for (int refusal = 0; refusal <= 6; refusal++) {
            for (int mode : new int[] {-1, 3, MIN, MAX}) {
                WidenedBanks x = new WidenedBanks();
                due("MODE (0 .. 2): " + mode, x.modes(refusal, mode), BAD);
                due("it is let be", x.modes(refusal, 0), 0);
            }
            for (int mode = 0; mode <= 2; mode++) {
                WidenedBanks x = new WidenedBanks();
                due("MODE (0 .. 2): " + mode, x.modes(refusal, mode), 0);
                due("it is so", x.modes(refusal, 0), mode);
            }
        }
    }

    private static void whatItWas() {
        for (int refusal = 0; refusal <= 6; refusal++) {
            WidenedBanks x = new WidenedBanks();
            int was = 0;
            for (int mode : new int[] {1, 1, 2, 2, 0, 2, 1, 0, 0}) {
                due("what it was", x.modes(refusal, mode), was);
                was = mode;
            }
        }
    }

    private static void eachOfItsOwn() {
        for (int one = 0; one <= 6; one++) {
            WidenedBanks x = new WidenedBanks();
            x.modes(one, 2);
            for (int other = 0; other <= 6; other++) {
                due("MODE of " + other, x.modes(other, 0), one == other ? 2 : 0);
            }
        }
    }

    /** Of seven LINES each is refused for another reason; only that one stops the RUN whose MODE is 0. */
    private static void whichRefusalIsWhich() {
        int[] stops = {OUT, GONE, BARE, UNLIKE, PAST, VOID, WIDE};
        for (int one = 0; one <= 6; one++) {
            WidenedBanks x = Programs.ofEachRefusal();
            for (int refusal = 0; refusal <= 6; refusal++) {
                x.modes(refusal, refusal == one ? STOP : SKIP);
            }
            due("only " + one + " stops", x.runs(), stops[one]);
        }
    }

    private static void refusedChangesNothing() {
        Asked rich = new Asked(States::rich);
        rich.stands("BAD: refusal 7", BAD, x -> x.modes(7, 1));
        rich.stands("BAD: refusal -1", BAD, x -> x.modes(-1, 1));
        rich.stands("BAD: MODE 3", BAD, x -> x.modes(0, 3));
        rich.stands("BAD: MODE -1", BAD, x -> x.modes(6, -1));
    }
}
