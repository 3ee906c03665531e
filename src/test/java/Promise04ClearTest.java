/** Promise 4: clear: "As at first, all (NUMBER, KIND told last, too): how many BANKS there were." */
public final class Promise04ClearTest extends Promise {
    public static void main(String[] args) {
        howManyBanksThereWere();
        allAsAtFirst();
        numberAndKindToldLast();
        cellsOfABankAnew();
        undoneBehindIt();
        imagesBehindIt();
        modesAndMetBehindIt();
        linesBehindIt();
        seenBehindIt();
        allTheRoomAgain();
        Due.end();
    }

    private static WidenedBanks cleared(WidenedBanks x) {
        x.clear();
        return x;
    }

    private static void howManyBanksThereWere() {
        WidenedBanks x = new WidenedBanks();
        for (int many = 0; many <= 6; many++) {
            for (int bank = 0; bank < many; bank++) {
                x.bank(6 + bank, 3);
            }
            due("BANKS there were", x.clear(), many);
            due("none now", x.count(0), 0);
        }
        due("again", x.clear(), 0);
    }

    private static void allAsAtFirst() {
        Asked atFirst = new Asked(WidenedBanks::new);
        atFirst.same("rich", () -> cleared(States.rich()));
        atFirst.same("full", () -> cleared(States.full()));
        atFirst.same("open", () -> cleared(States.open()));
        new Asked(States::rich).same("all of it made again", () -> States.filled(cleared(States.openAndFull())));
    }

    private static void numberAndKindToldLast() {
        WidenedBanks x = row();
        x.reads(0, 9);
        told("before", x, 4, 9);
        x.clear();
        told("NUMBER, KIND told last, too", x, NONE, 0);
        WidenedBanks y = pair(9, 1, 8);
        y.writes(0, 0, 9, 1, 3);
        y.looks(0, 0);
        told("before", y, 9, 3);
        y.clear();
        told("NUMBER, KIND told last, too", y, NONE, 0);
    }

    private static void cellsOfABankAnew() {
        WidenedBanks x = row();
        x.clear();
        due("looks(0, 0)", x.looks(0, 0), BAD);
        x.bank(5, 12);
        for (int place = 0; place < 12; place++) {
            cell("0 at first", x, 0, place, 5, 0);
        }
        x.clear();
        x.bank(8, 3);
        cell("NOTHING at first", x, 0, 2, NONE, 0);
        due("3 CELLS", x.looks(0, 3), PAST);
    }

    private static void undoneBehindIt() {
        WidenedBanks x = pair(4, 2, 4);
        for (int i = 0; i < 12; i++) {
            x.writes(0, 0, 4, 0, i);
        }
        x.clear();
        due("nothing can be UNDONE", x.count(5), 0);
        due("nothing can be UNDONE", x.undo(), STATE);
        x.bank(4, 2);
        x.view(0, 0, 1, 2, 4);
        due("nothing can be UNDONE", x.undo(), STATE);
        x.writes(0, 0, 4, 0, 77);
        due("one", x.undo(), 0);
        cell("it is UNDONE", x, 0, 0, 4, 0);
    }

    private static void imagesBehindIt() {
        WidenedBanks x = row();
        x.keep(0);
        x.keep(1);
        x.clear();
        due("no IMAGE 0", x.back(0), STATE);
        due("no IMAGE 1", x.back(1), STATE);
    }

    private static void modesAndMetBehindIt() {
        WidenedBanks x = row();
        for (int refusal = 0; refusal <= 6; refusal++) {
            x.modes(refusal, 1 + refusal % 2);
        }
        x.view(0, 20, 1, 1, 4);
        x.plans(0, 1, 5, 0, 0);
        x.plans(0, 1, 0, 0, 0);
        x.runs();
        due("MET before", x.met(0), 1);
        x.clear();
        for (int refusal = 0; refusal <= 6; refusal++) {
            due("MET " + refusal, x.met(refusal), 0);
            due("MODE " + refusal, x.modes(refusal, 0), 0);
        }
    }

    private static void linesBehindIt() {
        WidenedBanks x = States.open();
        due("TURNS are open before", x.count(3), 3);
        x.clear();
        due("no LINES", x.count(2), 0);
        due("no TURNS are open", x.count(3), 0);
        due("END", x.plans(6, 0, 0, 0, 0), STATE);
        due("runs()", x.runs(), 0);
        for (int turns = 1; turns <= 3; turns++) {
            due("three TURNS again", x.plans(5, 1, 0, 0, 0), turns);
        }
        due("not a fourth", x.plans(5, 1, 0, 0, 0), FULL);
    }

    private static void seenBehindIt() {
        WidenedBanks x = new WidenedBanks();
        x.sees(0, 0);
        x.sees(0, 1);
        x.clear();
        due("nothing is SEEN", x.count(4), 0);
        due("all KINDS are UNSEEN", x.unseen(1), 8191);
        due("fewest(0)", x.fewest(0), 4);
    }

    private static void allTheRoomAgain() {
        WidenedBanks x = States.full();
        due("6 BANKS there were", x.clear(), 6);
        for (int bank = 0; bank < 6; bank++) {
            due("a BANK", x.bank(4, 12), bank);
        }
        for (int view = 0; view < 8; view++) {
            due("a VIEW", x.view(5, 0, 1, 12, 4), view);
        }
        for (int line = 1; line <= 16; line++) {
            due("a LINE", x.plans(0, 0, 0, 0, 0), line);
        }
        for (int seen = 1; seen <= 6; seen++) {
            due("SEEN", x.sees(0, 0), seen);
        }
        due("FULL", x.bank(4, 12), FULL);
        due("FULL", x.view(5, 0, 1, 12, 4), FULL);
        due("FULL", x.plans(0, 0, 0, 0, 0), FULL);
        due("FULL", x.sees(0, 0), FULL);
    }
}
