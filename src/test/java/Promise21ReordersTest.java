/** Promise 21: reorders: "LINES lie by their WAVES, those of one WAVE as they lay: how many have another place than before." */
public final class Promise21ReordersTest extends Promise {
    public static void main(String[] args) {
        noLinesAtAll();
        oneLine();
        byTheirWaves();
        thoseOfOneWaveAsTheyLay();
        howManyHaveAnotherPlace();
        linesThatAreAlike();
        all16();
        lineUponLine();
        stateALine5Or6();
        stateAPlace12Or13();
        theSameIsDone();
        onlyLinesChange();
        refusedChangesNothing();
        Due.end();
    }

    private static void noLinesAtAll() {
        due("no LINES", row().reorders(), 0);
        due("no LINES, new", new WidenedBanks().reorders(), 0);
    }

    private static void oneLine() {
        WidenedBanks x = row();
        x.plans(4, 0, 1, 0, 2);
        due("one LINE", x.reorders(), 0);
        due("it is there", x.line(0, 0), 4);
    }

    private static void lies(String sentence, WidenedBanks x, int... places) {
        for (int line = 0; line < places.length; line++) {
            due(sentence + ": p of LINE " + line, x.line(line, 2), places[line]);
        }
    }

    private static void byTheirWaves() {
        WidenedBanks x = row();
        x.plans(0, 0, 0, 0, 1);
        x.plans(1, 0, 1, 0, 2);
        x.plans(2, 0, 2, 0, 3);
        x.plans(3, 0, 5, 0, 6);
        due("the last is of WAVE 0", x.reorders(), 3);
        lies("WAVES 0, 0, 1, 2", x, 0, 5, 1, 2);
        int[] whats = {0, 3, 1, 2};
        for (int line = 0; line < 4; line++) {
            due("all of the LINE", x.line(line, 0), whats[line]);
            due("all of the LINE", x.line(line, 1), 0);
            due("all of the LINE", x.line(line, 3), 0);
            due("all of the LINE", x.line(line, 4), x.line(line, 2) + 1);
        }
        due("they lie by their WAVES", x.reorders(), 0);
        lies("still", x, 0, 5, 1, 2);
    }

    private static void thoseOfOneWaveAsTheyLay() {
        WidenedBanks x = row();
        x.plans(0, 0, 0, 0, 1);
        x.plans(0, 0, 1, 0, 2);
        x.plans(0, 0, 7, 0, 8);
        x.plans(0, 0, 8, 0, 9);
        x.plans(0, 0, 3, 0, 4);
        x.plans(0, 0, 4, 0, 5);
        due("three and three", x.reorders(), 4);
        lies("those of one WAVE as they lay", x, 0, 7, 3, 1, 8, 4);
    }

    private static void howManyHaveAnotherPlace() {
        WidenedBanks x = row();
        x.plans(0, 0, 0, 0, 1);
        x.plans(0, 0, 1, 0, 2);
        x.plans(0, 0, 8, 0, 9);
        x.plans(0, 0, 2, 0, 3);
        due("two change places", x.reorders(), 2);
        lies("two change places", x, 0, 8, 1, 2);
        WidenedBanks y = row();
        y.plans(0, 0, 0, 0, 1);
        y.plans(0, 0, 8, 0, 9);
        y.plans(0, 0, 1, 0, 2);
        due("none", y.reorders(), 0);
    }

    private static void linesThatAreAlike() {
        WidenedBanks x = row();
        x.plans(0, 0, 0, 0, 1);
        x.plans(0, 0, 0, 0, 1);
        x.plans(0, 0, 8, 0, 9);
        due("LINES, not what they look like", x.reorders(), 2);
        lies("alike", x, 0, 8, 0);
    }

    private static void all16() {
        WidenedBanks x = row();
        for (int line = 0; line < 8; line++) {
            x.plans(0, 0, 0, 0, 1);
        }
        for (int line = 8; line < 16; line++) {
            x.plans(0, 0, 2, 0, 3);
        }
        // By turns one of each: the first and the last stay.
        due("14 of 16", x.reorders(), 14);
        lies("by turns", x, 0, 2, 0, 2, 0, 2, 0, 2, 0, 2, 0, 2, 0, 2, 0, 2);
        WidenedBanks y = row();
        for (int line = 0; line < 16; line++) {
            y.plans(4, 0, line % 12, 0, 0);
        }
        due("16 WAVES", y.reorders(), 0);
        due("16 LINES", y.count(2), 16);
    }

    private static void lineUponLine() {
        WidenedBanks x = row();
        x.plans(0, 0, 0, 0, 1);
        x.plans(0, 0, 1, 0, 2);
        x.plans(0, 0, 8, 0, 9);
        x.reorders();
        due("drops() takes the one that lies last now", x.drops(), 2);
        lies("the others", x, 0, 8);
        due("another behind them", x.plans(0, 0, 7, 0, 6), 3);
        lies("behind them", x, 0, 8, 7);
    }

    private static void stateALine5Or6() {
        WidenedBanks x = row();
        Programs.turns(x, 1);
        due("a LINE 5", x.reorders(), STATE);
        Programs.end(x);
        due("LINES 5, 6", x.reorders(), STATE);
        x.plans(0, 0, 0, 0, 1);
        due("LINES 5, 6 ahead", x.reorders(), STATE);
    }

    private static void stateAPlace12Or13() {
        for (int step = 0; step <= 4; step++) {
            for (int place = 11; place <= 13; place++) {
                WidenedBanks x = row();
                x.plans(step, 0, place, 0, 2);
                due("p " + place, x.reorders(), place == 11 ? 0 : STATE);
                WidenedBanks y = row();
                y.plans(0, 0, 0, 0, 1);
                y.plans(step, 0, 2, 0, place);
                due("q " + place, y.reorders(), place == 11 ? 0 : STATE);
            }
        }
    }

    private static void theSameIsDone() {
        WidenedBanks x = States.plain();
        WidenedBanks y = States.plain();
        due("reorders()", y.reorders(), 3);
        due("as many STEPS", y.runs(), x.runs());
        for (int place = 0; place < 12; place++) {
            x.looks(0, place);
            cell("the same CELLS", y, 0, place, x.kind(), x.number());
        }
    }

    private static void onlyLinesChange() {
        WidenedBanks x = States.plain();
        int undone = x.count(5);
        long number = x.number();
        x.reorders();
        due("nothing to be UNDONE by it", x.count(5), undone);
        due("NUMBER told", x.number(), number);
        due("MODE", x.modes(5, 0), LEAVE);
        due("MET", x.met(4), 2);
        cell("CELLS", x, 0, 1, 4, 201);
    }

    private static void refusedChangesNothing() {
        new Asked(States::rich).stands("STATE: LINES 5, 6", STATE, WidenedBanks::reorders);
        new Asked(States::open).stands("STATE: TURNS are open", STATE, WidenedBanks::reorders);
        Asked place = new Asked(() -> {
            WidenedBanks x = States.plain();
            x.plans(0, 0, 12, 0, 1);
            return x;
        });
        place.stands("STATE: a place 12", STATE, WidenedBanks::reorders);
    }
}
