/** Promise 30: keep: "An IMAGE is kept: BANKS. BAD." */
public final class Promise30KeepTest extends Promise {
    public static void main(String[] args) {
        imageBounds();
        answersBanks();
        twoImages();
        keptAnew();
        whatCellsOfAllBanksHave();
        keptAsItIsThen();
        nothingElseIsKept();
        nothingChanges();
        refusedChangesNothing();
        Due.end();
    }

    private static void imageBounds() {
        for (int image : new int[] {-1, 2, MIN, MAX}) {
            due("IMAGES 0, 1: " + image, row().keep(image), BAD);
        }
        due("IMAGES 0, 1: 0", row().keep(0), 1);
        due("IMAGES 0, 1: 1", row().keep(1), 1);
    }

    private static void answersBanks() {
        WidenedBanks x = new WidenedBanks();
        for (int banks = 0; banks <= 6; banks++) {
            due("BANKS, IMAGE 0", x.keep(0), banks);
            due("BANKS, IMAGE 1", x.keep(1), banks);
            x.bank(12 - banks, 1);
        }
    }

    private static void twoImages() {
        WidenedBanks x = row();
        x.writes(0, 0, 4, 0, 50);
        x.keep(0);
        x.writes(0, 0, 4, 0, 51);
        x.keep(1);
        x.writes(0, 0, 4, 0, 52);
        x.back(0);
        cell("IMAGE 0", x, 0, 0, 4, 50);
        x.back(1);
        cell("IMAGE 1", x, 0, 0, 4, 51);
        x.back(0);
        cell("IMAGE 0 again", x, 0, 0, 4, 50);
    }

    private static void keptAnew() {
        for (int image = 0; image <= 1; image++) {
            WidenedBanks x = row();
            x.keep(image);
            x.writes(0, 0, 4, 0, 50);
            x.bank(5, 1);
            due("kept anew", x.keep(image), 2);
            x.writes(0, 0, 4, 0, 51);
            due("as it was kept last", x.back(image), 2);
            cell("as it was kept last", x, 0, 0, 4, 50);
        }
    }

    private static void whatCellsOfAllBanksHave() {
        for (int image = 0; image <= 1; image++) {
            WidenedBanks x = new WidenedBanks();
            for (int bank = 0; bank < 6; bank++) {
                x.bank(8, 12);
                x.view(bank, 0, 1, 12, 8);
            }
            for (int bank = 0; bank < 6; bank++) {
                x.writes(bank, 0, 7, 1, -EDGE + bank * 1024);
                x.writes(bank, 11, 9, 1, bank);
            }
            due("6 BANKS", x.keep(image), 6);
            for (int bank = 0; bank < 6; bank++) {
                x.writes(bank, 0, 10, 1, 0);
                x.writes(bank, 5, 4, 1, 5);
                x.writes(bank, 11, 10, 1, 0);
            }
            due("6 BANKS", x.back(image), 6);
            for (int bank = 0; bank < 6; bank++) {
                cell("the first CELL", x, bank, 0, 7, -EDGE + bank * 1024);
                cell("NOTHING", x, bank, 5, NONE, 0);
                cell("the last CELL", x, bank, 11, 9, bank);
            }
        }
    }

    private static void keptAsItIsThen() {
        WidenedBanks x = row();
        x.keep(1);
        for (int i = 0; i < 12; i++) {
            x.writes(0, i, 4, 0, -i);
        }
        x.undo();
        x.does(4, 0, 0, 0, 11);
        x.back(1);
        cells("what was done behind it does not touch it", x, 0, 0, 1, 2, 3, 4, 5, 6, 7, 8, 9, 10, 11);
    }

    private static void nothingElseIsKept() {
        WidenedBanks x = row();
        x.plans(0, 0, 0, 0, 1);
        x.modes(0, SKIP);
        x.sees(0, 0);
        x.reads(0, 5);
        x.keep(1);
        x.plans(0, 0, 1, 0, 2);
        x.modes(0, LEAVE);
        x.sees(0, 0);
        x.view(0, 0, 1, 1, 8);
        x.bank(4, 1);
        x.reads(0, 6);
        x.back(1);
        due("LINES", x.count(2), 2);
        due("MODE", x.modes(0, 0), LEAVE);
        due("SEEN", x.count(4), 2);
        due("VIEWS", x.count(1), 2);
        due("BANKS", x.count(0), 2);
        told("NUMBER, KIND", x, 4, 6);
    }

    private static void nothingChanges() {
        Asked kept = new Asked(() -> {
            WidenedBanks x = States.full();
            x.keep(0);
            return x;
        });
        kept.same("kept twice", () -> {
            WidenedBanks x = States.full();
            x.keep(0);
            x.keep(0);
            return x;
        });
        WidenedBanks y = States.rich();
        due("what may be UNDONE", y.count(5), 10);
        y.keep(1);
        due("what may be UNDONE stays", y.count(5), 10);
        due("and is UNDONE", y.undo(), 9);
    }

    private static void refusedChangesNothing() {
        Asked rich = new Asked(States::rich);
        rich.stands("BAD: 2", BAD, x -> x.keep(2));
        rich.stands("BAD: -1", BAD, x -> x.keep(-1));
    }
}
