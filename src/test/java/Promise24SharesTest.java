/** Promise 24: shares: "Places of VIEW a (bits) whose CELL is that of some place of VIEW b, too. BAD." */
public final class Promise24SharesTest extends Promise {
    public static void main(String[] args) {
        viewBounds();
        withItself();
        all12Places();
        placesOfANotOfB();
        someOfThem();
        severalPlacesOfOneCell();
        anotherBank();
        pastIsNoCell();
        outIsNoCell();
        goneAndBareHaveNoCells();
        allPlacesOfBothNotTheLesserCount();
        whateverKinds();
        refusedChangesNothing();
        Due.end();
    }

    private static void viewBounds() {
        for (int view : new int[] {-1, 1, 8, MIN, MAX}) {
            due("no such VIEW a: " + view, row().shares(view, 0), BAD);
            due("no such VIEW b: " + view, row().shares(0, view), BAD);
        }
    }

    private static void withItself() {
        for (int count = 1; count <= 12; count++) {
            WidenedBanks x = row();
            x.view(0, 12 - count, 1, count, 4);
            due("with itself, " + count + " places", x.shares(1, 1), (1 << count) - 1);
        }
    }

    private static void all12Places() {
        WidenedBanks x = row();
        x.view(0, 11, -1, 12, 4);
        due("bit 0 .. bit 11", x.shares(0, 1), 4095);
        x.view(0, 11, 1, 1, 4);
        due("bit 11 alone", x.shares(0, 2), 2048);
        due("bit 0 alone", x.shares(1, 2), 1);
    }

    private static void placesOfANotOfB() {
        WidenedBanks x = row();
        x.view(0, 4, 1, 3, 4);
        due("of a", x.shares(0, 1), 16 + 32 + 64);
        due("of the other", x.shares(1, 0), 7);
    }

    private static void someOfThem() {
        WidenedBanks x = row();
        x.view(0, 0, 2, 6, 4);
        x.view(0, 0, 3, 4, 4);
        x.view(0, 1, 2, 6, 4);
        due("0, 2, .. and 0, 3, ..", x.shares(1, 2), 1 + 8);
        due("0, 3, .. and 0, 2, ..", x.shares(2, 1), 1 + 4);
        due("even and odd ones", x.shares(1, 3), 0);
    }

    private static void severalPlacesOfOneCell() {
        WidenedBanks x = row();
        x.view(0, 5, 0, 4, 4);
        due("all places are one CELL", x.shares(1, 0), 15);
        due("one place", x.shares(0, 1), 32);
        due("with itself", x.shares(1, 1), 15);
    }

    private static void anotherBank() {
        WidenedBanks x = row();
        x.bank(4, 12);
        x.view(1, 0, 1, 12, 4);
        due("another BANK", x.shares(0, 1), 0);
        due("another BANK", x.shares(1, 0), 0);
    }

    private static void pastIsNoCell() {
        WidenedBanks x = new WidenedBanks();
        x.bank(4, 3);
        x.bank(4, 12);
        x.view(0, -2, 1, 12, 4);
        x.view(0, 3, 1, 1, 4);
        x.view(0, -1, 1, 1, 4);
        due("places 2, 3, 4 are CELLS", x.shares(0, 0), 4 + 8 + 16);
        due("PAST above", x.shares(0, 1), 0);
        due("PAST below", x.shares(0, 2), 0);
        due("PAST with itself", x.shares(1, 1), 0);
        due("PAST with itself", x.shares(2, 2), 0);
    }

    private static void outIsNoCell() {
        WidenedBanks x = row();
        x.view(0, 4, 1, 2, 4);
        x.view(11, -1, 1, 4, 4);
        due("places 1, 2 are CELLS", x.shares(2, 0), 2 + 4);
        due("of CELLS 4, 5", x.shares(0, 2), 16 + 32);
        due("OUT with itself", x.shares(2, 2), 2 + 4);
    }

    private static void goneAndBareHaveNoCells() {
        for (int bank = 11; bank <= 12; bank++) {
            WidenedBanks x = pair(bank, 12, 8);
            due("no CELLS", x.shares(0, 0), 0);
        }
    }

    private static void allPlacesOfBothNotTheLesserCount() {
        WidenedBanks x = row();
        x.view(0, 11, -1, 2, 4);
        due("places 10, 11 of a, though b has two", x.shares(0, 1), 1024 + 2048);
        due("place 11 of b counts, though a has two", x.shares(1, 0), 3);
    }

    private static void whateverKinds() {
        WidenedBanks x = new WidenedBanks();
        x.bank(4, 2);
        x.view(0, 0, 1, 2, 0);
        x.view(0, 0, 1, 2, 8);
        x.view(11, 0, 1, 2, 4);
        due("UNLIKE does not matter", x.shares(0, 1), 3);
        due("UNLIKE does not matter", x.shares(0, 2), 3);
    }

    private static void refusedChangesNothing() {
        Asked rich = new Asked(States::rich);
        rich.stands("BAD: a", BAD, x -> x.shares(7, 0));
        rich.stands("BAD: b", BAD, x -> x.shares(0, -1));
    }
}
