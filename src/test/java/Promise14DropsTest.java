/** Promise 14: drops: "The last LINE is gone: LINES. STATE: none." */
public final class Promise14DropsTest extends Promise {
    public static void main(String[] args) {
        stateNone();
        theLastLineIsGone();
        linesDownToNone();
        roomFor16Again();
        anEndThatIsGone();
        turnsThatAreGone();
        onlyLinesChange();
        refusedChangesNothing();
        Due.end();
    }

    private static void stateNone() {
        WidenedBanks x = row();
        due("STATE: none", x.drops(), STATE);
        x.plans(0, 0, 0, 0, 1);
        due("LINES", x.drops(), 0);
        due("STATE: none more", x.drops(), STATE);
    }

    private static void theLastLineIsGone() {
        WidenedBanks x = row();
        x.plans(1, 0, 2, 0, 3);
        x.plans(2, 0, 4, 0, 5);
        due("LINES", x.drops(), 1);
        due("the last is gone", x.line(1, 0), BAD);
        due("the first stays", x.line(0, 0), 1);
        due("the first stays", x.line(0, 4), 3);
        due("it is not run", x.runs(), 1);
        due("another in its place", x.plans(3, 0, 6, 0, 7), 2);
        due("another in its place", x.line(1, 0), 3);
        due("another in its place", x.line(1, 2), 6);
    }

    private static void linesDownToNone() {
        WidenedBanks x = States.full();
        for (int left = 15; left >= 0; left--) {
            due("LINES", x.drops(), left);
            due("count(2)", x.count(2), left);
        }
        due("STATE: none", x.drops(), STATE);
        due("no TURNS are open", x.count(3), 0);
    }

    private static void roomFor16Again() {
        WidenedBanks x = States.full();
        due("FULL", x.plans(0, 0, 0, 0, 0), FULL);
        due("LINES", x.drops(), 15);
        due("the 16th", x.plans(0, 0, 0, 0, 0), 16);
        due("FULL", x.plans(0, 0, 0, 0, 0), FULL);
    }

    private static void anEndThatIsGone() {
        WidenedBanks x = row();
        x.plans(5, 2, 0, 0, 0);
        x.plans(6, 0, 0, 0, 0);
        due("none are open", x.count(3), 0);
        due("END is gone", x.drops(), 1);
        due("TURNS are open again", x.count(3), 1);
        due("runs()", x.runs(), STATE);
        due("END anew", x.plans(6, 0, 0, 0, 0), 2);
        due("runs()", x.runs(), 0);
        WidenedBanks y = row();
        for (int i = 0; i < 3; i++) {
            y.plans(5, 1, 0, 0, 0);
        }
        y.plans(6, 0, 0, 0, 0);
        y.drops();
        due("three are open again, FULL: a fourth", y.plans(5, 1, 0, 0, 0), FULL);
    }

    private static void turnsThatAreGone() {
        WidenedBanks x = row();
        for (int i = 0; i < 3; i++) {
            x.plans(5, 1, 0, 0, 0);
        }
        due("TURNS are gone", x.drops(), 2);
        due("two are open", x.count(3), 2);
        due("a third again", x.plans(5, 1, 0, 0, 0), 3);
        x.drops();
        x.drops();
        x.drops();
        due("none are open", x.count(3), 0);
        due("END", x.plans(6, 0, 0, 0, 0), STATE);
        due("runs()", x.runs(), 0);
    }

    private static void onlyLinesChange() {
        WidenedBanks x = States.rich();
        int undone = x.count(5);
        int met = x.met(4);
        x.drops();
        due("what may be UNDONE", x.count(5), undone);
        due("MET", x.met(4), met);
        due("MODE", x.modes(5, 0), LEAVE);
        due("BANKS", x.count(0), 5);
        due("VIEWS", x.count(1), 7);
    }

    private static void refusedChangesNothing() {
        new Asked(States::bare).stands("STATE: none", STATE, WidenedBanks::drops);
        Asked dropped = new Asked(() -> {
            WidenedBanks x = States.open();
            for (int line = x.count(2); line > 0; line--) {
                x.drops();
            }
            return x;
        });
        dropped.stands("STATE: none more", STATE, WidenedBanks::drops);
    }
}
