/** Promise 6: looks: "What a CELL of a BANK has: 0; number(), kind() tell it. BAD (place 0 .. 11); GONE; BARE; PAST." */
public final class Promise06LooksTest extends Promise {
    public static void main(String[] args) {
        bankBounds();
        placeBounds();
        whatACellHas();
        goneAndBareAtEachPlace();
        badAheadOfAll();
        pastBehindTheLast();
        refusedChangesNothing();
        Due.end();
    }

    private static void bankBounds() {
        for (int many = 0; many <= 6; many++) {
            WidenedBanks x = new WidenedBanks();
            for (int bank = 0; bank < many; bank++) {
                x.bank(4, 1);
            }
            for (int bank : new int[] {-1, many, 6, 10, MIN, MAX}) {
                due("no such BANK: " + bank + " of " + many, x.looks(bank, 0), BAD);
            }
            if (many > 0) {
                due("the first BANK of " + many, x.looks(0, 0), 0);
                due("the last BANK of " + many, x.looks(many - 1, 0), 0);
            }
        }
    }

    private static void placeBounds() {
        WidenedBanks x = row();
        for (int place : new int[] {-1, 12, 13, MIN, MAX}) {
            due("place 0 .. 11: " + place, x.looks(0, place), BAD);
        }
        cell("place 0 .. 11", x, 0, 0, 4, 0);
        cell("place 0 .. 11", x, 0, 11, 4, 11);
    }

    private static void whatACellHas() {
        WidenedBanks x = pair(8, 4, 8);
        x.writes(0, 0, 9, 1, 0);
        x.writes(0, 1, 9, 1, 9);
        x.writes(0, 2, 6, 1, EDGE);
        cell("the NAME 0", x, 0, 0, 9, 0);
        cell("the NAME 9", x, 0, 1, 9, 9);
        cell("a NUMBER", x, 0, 2, 6, EDGE);
        cell("NOTHING", x, 0, 3, NONE, 0);
        WidenedBanks y = new WidenedBanks();
        y.bank(10, 1);
        y.view(0, 0, 1, 1, 8);
        y.writes(0, 0, 4, 1, MIN);
        cell("a NUMBER of KIND 4", y, 0, 0, 4, MIN);
    }

    private static void goneAndBareAtEachPlace() {
        WidenedBanks x = new WidenedBanks();
        x.bank(11, 3);
        x.bank(12, 3);
        for (int place = 0; place <= 11; place++) {
            due("GONE at " + place, x.looks(0, place), GONE);
            due("BARE at " + place, x.looks(1, place), BARE);
        }
    }

    private static void badAheadOfAll() {
        WidenedBanks x = new WidenedBanks();
        x.bank(11, 3);
        x.bank(12, 3);
        x.bank(4, 3);
        for (int bank = 0; bank < 3; bank++) {
            due("BAD ahead of GONE, BARE, PAST: 12", x.looks(bank, 12), BAD);
            due("BAD ahead of GONE, BARE, PAST: -1", x.looks(bank, -1), BAD);
        }
    }

    private static void pastBehindTheLast() {
        for (int size = 1; size <= 11; size++) {
            WidenedBanks x = new WidenedBanks();
            x.bank(4, size);
            due("the last of " + size, x.looks(0, size - 1), 0);
            due("PAST the last of " + size, x.looks(0, size), PAST);
            due("PAST at 11", x.looks(0, 11), PAST);
        }
    }

    private static void refusedChangesNothing() {
        Asked full = new Asked(States::full);
        full.stands("BAD: no such BANK", BAD, x -> x.looks(6, 0));
        full.stands("BAD: place", BAD, x -> x.looks(0, 12));
        full.stands("GONE", GONE, x -> x.looks(4, 0));
        full.stands("BARE", BARE, x -> x.looks(5, 0));
        full.stands("PAST", PAST, x -> x.looks(2, 3));
    }
}
