/** Promise 31: back, with what the Terms say of IMAGES. */
public final class Promise31BackTest extends Promise {
    public static void main(String[] args) {
        imageBounds();
        stateNoneWasKept();
        badAheadOfState();
        banksThatItHas();
        anImageOfNoBanks();
        banksThatWereNotThereYetStay();
        nothingCanBeUndoneBehindIt();
        knownAnewBehindIt();
        backTwice();
        whatIsDoneBehindItDoesNotTouchIt();
        nothingElseChanges();
        refusedChangesNothing();
        Due.end();
    }

    private static void imageBounds() {
        for (int image : new int[] {-1, 2, MIN, MAX}) {
            WidenedBanks x = row();
            x.keep(1);
            due("IMAGES 0, 1: " + image, x.back(image), BAD);
        }
        WidenedBanks y = row();
        y.keep(1);
        due("IMAGES 0, 1: 0", y.back(0), 1);
        due("IMAGES 0, 1: 1", y.back(1), 1);
    }

    private static void stateNoneWasKept() {
        for (int image = 0; image <= 1; image++) {
            WidenedBanks x = pair(4, 1, 4);
            due("none was kept", x.back(image), STATE);
            x.keep(1 - image);
            due("only the other was kept", x.back(image), STATE);
            x.keep(2);
            due("BAD keeps none", x.back(image), STATE);
            x.keep(image);
            due("it is kept", x.back(image), 1);
        }
    }

    private static void badAheadOfState() {
        WidenedBanks x = new WidenedBanks();
        due("BAD ahead of STATE: 2", x.back(2), BAD);
        due("BAD ahead of STATE: -1", x.back(-1), BAD);
        due("STATE", x.back(1), STATE);
    }

    private static void banksThatItHas() {
        for (int banks = 0; banks <= 6; banks++) {
            WidenedBanks x = new WidenedBanks();
            for (int bank = 0; bank < banks; bank++) {
                x.bank(4, 1);
            }
            x.keep(0);
            due("BANKS that it has", x.back(0), banks);
            for (int bank = banks; bank < 6; bank++) {
                x.bank(4, 1);
            }
            due("not those that there are", x.back(0), banks);
            due("6 BANKS", x.count(0), 6);
        }
    }

    private static void anImageOfNoBanks() {
        WidenedBanks x = new WidenedBanks();
        due("no BANKS", x.keep(0), 0);
        x.bank(4, 2);
        x.view(0, 0, 1, 2, 4);
        x.writes(0, 1, 4, 0, 7);
        due("BANKS that it has: none", x.back(0), 0);
        cell("stays as it is", x, 0, 1, 4, 7);
        due("nothing can be UNDONE", x.undo(), STATE);
    }

    private static void banksThatWereNotThereYetStay() {
        WidenedBanks x = new WidenedBanks();
        for (int bank = 0; bank < 3; bank++) {
            x.bank(8, 12);
            x.view(bank, 0, 1, 12, 8);
            x.writes(bank, 11, 9, 1, 1);
        }
        due("3 BANKS", x.keep(1), 3);
        for (int bank = 3; bank < 6; bank++) {
            x.bank(8, 12);
            x.view(bank, 0, 1, 12, 8);
        }
        for (int bank = 0; bank < 6; bank++) {
            x.writes(bank, 0, 9, 1, 2);
            x.writes(bank, 11, 9, 1, 3);
        }
        due("3 BANKS", x.back(1), 3);
        for (int bank = 0; bank < 6; bank++) {
            boolean had = bank < 3;
            cell("BANK " + bank, x, bank, 0, had ? NONE : 9, had ? 0 : 2);
            cell("BANK " + bank, x, bank, 11, 9, had ? 1 : 3);
        }
        due("BANKS", x.count(0), 6);
        due("the sixth is there", x.writes(5, 1, 4, 1, 1), 0);
    }

    private static void nothingCanBeUndoneBehindIt() {
        WidenedBanks x = pair(4, 2, 4);
        x.keep(0);
        for (int i = 1; i <= 12; i++) {
            x.writes(0, 0, 4, 0, i);
        }
        due("10 before", x.count(5), 10);
        x.back(0);
        due("none behind it", x.count(5), 0);
        due("none behind it", x.undo(), STATE);
        cell("as the IMAGE has it", x, 0, 0, 4, 0);
    }

    private static void knownAnewBehindIt() {
        WidenedBanks x = pair(4, 2, 4);
        x.keep(0);
        for (int i = 1; i <= 7; i++) {
            x.writes(0, 0, 4, 0, i);
        }
        x.back(0);
        for (int i = 21; i <= 31; i++) {
            x.writes(0, 0, 4, 0, i);
        }
        for (int left = 9; left >= 0; left--) {
            due("10 again", x.undo(), left);
            cell("one before", x, 0, 0, 4, 21 + left);
        }
        due("none more", x.undo(), STATE);
        x.back(0);
        x.writes(0, 1, 4, 0, 5);
        due("down to where it went back", x.undo(), 0);
        cells("as the IMAGE has it", x, 0, 0, 0);
    }

    private static void backTwice() {
        WidenedBanks x = row();
        for (int i = 0; i < 3; i++) {
            x.writes(0, 3, 4, 0, 99);
            due("the IMAGE is still kept", x.back(0), 1);
            cell("the IMAGE is still kept", x, 0, 3, 4, 3);
        }
    }

    private static void whatIsDoneBehindItDoesNotTouchIt() {
        WidenedBanks x = row();
        x.back(0);
        x.writes(0, 0, 4, 0, 50);
        x.copies(0, 0, 2);
        x.undo();
        x.undo();
        x.writes(0, 1, 4, 0, 51);
        x.back(0);
        cells("as it was kept", x, 0, 0, 1, 2);
    }

    private static void nothingElseChanges() {
        WidenedBanks x = States.full();
        x.reads(0, 3);
        due("BANKS that it has", x.back(0), 5);
        told("what was told", x, 4, 103);
        due("BANKS", x.count(0), 6);
        due("VIEWS", x.count(1), 8);
        due("LINES", x.count(2), 16);
        due("SEEN", x.count(4), 6);
        due("MET", x.met(4), 2);
        due("MODE", x.modes(5, 0), LEAVE);
        due("the other is not kept", x.back(1), STATE);
        cell("CELLS of the IMAGE", x, 0, 1, 4, 101);
        cell("CELLS of the IMAGE", x, 1, 0, NONE, 0);
    }

    private static void refusedChangesNothing() {
        Asked rich = new Asked(States::rich);
        rich.stands("STATE: IMAGE 1 was not kept", STATE, x -> x.back(1));
        rich.stands("BAD: 2", BAD, x -> x.back(2));
        rich.stands("BAD: -1", BAD, x -> x.back(-1));
        new Asked(States::bare).stands("STATE: none was kept", STATE, x -> x.back(0));
    }
}
