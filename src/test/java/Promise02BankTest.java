/** Promise 2: bank, with what the Terms say of BANKS and CELLS. */
public final class Promise02BankTest extends Promise {
    public static void main(String[] args) {
        kindBounds();
        sizeBounds();
        of11And12NoneWhateverIsTold();
        itsNumber();
        full6();
        badAheadOfFull();
        cellsOf0To7Have0AtFirst();
        cellsOf8To10HaveNothingAtFirst();
        placesAreAsManyAsTold();
        whatCellsOf8To10MayHave();
        refusedChangesNothing();
        Due.end();
    }

    private static void kindBounds() {
        for (int kind : new int[] {-1, 13, MIN, MAX}) {
            due("a KIND (0 .. 12): " + kind, new WidenedBanks().bank(kind, 4), BAD);
        }
        for (int kind = 0; kind <= 12; kind++) {
            due("a KIND (0 .. 12): " + kind, new WidenedBanks().bank(kind, 4), 0);
        }
    }

    private static void sizeBounds() {
        for (int kind = 0; kind <= 10; kind++) {
            for (int size : new int[] {0, 13, -1, MIN, MAX}) {
                due("CELLS (1 .. 12): " + size + " of KIND " + kind, new WidenedBanks().bank(kind, size), BAD);
            }
            due("CELLS (1 .. 12): 1 of KIND " + kind, new WidenedBanks().bank(kind, 1), 0);
            due("CELLS (1 .. 12): 12 of KIND " + kind, new WidenedBanks().bank(kind, 12), 0);
        }
    }

    private static void of11And12NoneWhateverIsTold() {
        for (int kind = 11; kind <= 12; kind++) {
            due("of 11, 12, told 0", new WidenedBanks().bank(kind, 0), BAD);
            due("of 11, 12, told 13", new WidenedBanks().bank(kind, 13), BAD);
            for (int size = 1; size <= 12; size++) {
                WidenedBanks x = new WidenedBanks();
                due("of 11, 12, told " + size, x.bank(kind, size), 0);
                x.view(0, 0, 1, 12, 8);
                for (int place = 0; place < 12; place++) {
                    due("no CELL at " + place, x.looks(0, place), kind == 11 ? GONE : BARE);
                }
                due("no CELL is shared", x.shares(0, 0), 0);
            }
        }
    }

    private static void itsNumber() {
        WidenedBanks x = new WidenedBanks();
        for (int number = 0; number < 6; number++) {
            due("its number", x.bank(number, number + 1), number);
            due("a BANK that was refused has none", x.bank(13, 1), BAD);
            due("BANKS", x.count(0), number + 1);
        }
    }

    private static void full6() {
        WidenedBanks x = new WidenedBanks();
        for (int number = 0; number < 5; number++) {
            x.bank(4, 1);
        }
        due("the sixth", x.bank(12, 12), 5);
        due("FULL: 6", x.bank(0, 1), FULL);
        due("FULL: 6", x.bank(12, 12), FULL);
        due("6 BANKS", x.count(0), 6);
        x.clear();
        due("a BANK behind clear()", x.bank(0, 1), 0);
    }

    private static void badAheadOfFull() {
        WidenedBanks x = States.full();
        due("BAD ahead of FULL: KIND", x.bank(13, 1), BAD);
        due("BAD ahead of FULL: KIND", x.bank(-1, 1), BAD);
        due("BAD ahead of FULL: size", x.bank(4, 0), BAD);
        due("BAD ahead of FULL: size", x.bank(4, 13), BAD);
        due("FULL", x.bank(4, 12), FULL);
    }

    private static void cellsOf0To7Have0AtFirst() {
        for (int kind = 0; kind <= 7; kind++) {
            WidenedBanks x = new WidenedBanks();
            x.bank(kind, 12);
            for (int place = 0; place < 12; place++) {
                cell("0 at first", x, 0, place, kind, 0);
            }
        }
    }

    private static void cellsOf8To10HaveNothingAtFirst() {
        for (int kind = 8; kind <= 10; kind++) {
            WidenedBanks x = pair(4, 1, 4);
            x.writes(0, 0, 4, 0, 5);
            x.bank(kind, 12);
            for (int place = 0; place < 12; place++) {
                x.looks(0, 0);
                cell("NOTHING at first", x, 1, place, NONE, 0);
            }
        }
    }

    private static void placesAreAsManyAsTold() {
        for (int kind = 0; kind <= 10; kind++) {
            for (int size = 1; size <= 12; size++) {
                WidenedBanks x = new WidenedBanks();
                x.bank(kind, size);
                due("the last of " + size, x.looks(0, size - 1), 0);
                due("behind the last of " + size, x.looks(0, size), size == 12 ? BAD : PAST);
            }
        }
    }

    private static void whatCellsOf8To10MayHave() {
        int[] things = {0, 1, 2, 3, 4, 5, 6, 7, 9, 10};
        for (int thing : things) {
            due("8: any THING: " + thing, pair(8, 1, 8).writes(0, 0, thing, 1, 1), 0);
            due("9: NAMES or NOTHING: " + thing, pair(9, 1, 8).writes(0, 0, thing, 1, 1), thing >= 9 ? 0 : UNLIKE);
            due("10: NUMBERS of KIND 4 or NOTHING: " + thing, pair(10, 1, 8).writes(0, 0, thing, 1, 1),
                    thing == 4 || thing == 10 ? 0 : UNLIKE);
        }
    }

    private static void refusedChangesNothing() {
        Asked rich = new Asked(States::rich);
        rich.stands("BAD: bank(-1, 1)", BAD, x -> x.bank(-1, 1));
        rich.stands("BAD: bank(13, 1)", BAD, x -> x.bank(13, 1));
        rich.stands("BAD: bank(4, 0)", BAD, x -> x.bank(4, 0));
        rich.stands("BAD: bank(11, 13)", BAD, x -> x.bank(11, 13));
        new Asked(States::full).stands("FULL: bank(4, 4)", FULL, x -> x.bank(4, 4));
    }
}
