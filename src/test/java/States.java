/** Objects that the tests of refused calls begin with. */
final class States {
    private States() {
    }

    /** Something of everything, and room for one more of each; IMAGE 1 is not kept. */
    static WidenedBanks rich() {
        return filled(new WidenedBanks());
    }

    /** rich() made of an object that is as at first. */
    static WidenedBanks filled(WidenedBanks x) {
        x.bank(4, 12);
        x.bank(8, 5);
        x.bank(5, 3);
        x.bank(9, 2);
        x.bank(11, 4);
        x.view(0, 0, 1, 12, 4);
        x.view(1, 0, 1, 6, 8);
        x.view(10, 11, -1, 12, 5);
        x.view(12, 0, 2, 6, 8);
        x.view(13, 0, 1, 4, 8);
        x.view(2, -1, 1, 5, 5);
        x.view(4, 0, 1, 3, 8);
        for (int place = 0; place < 12; place++) {
            x.writes(0, place, 4, 0, 100 + place);
        }
        x.keep(0);
        x.writes(1, 0, 9, 1, 7);
        x.writes(1, 1, 4, 1, 41);
        x.writes(5, 1, 5, 0, 1L << 60);
        x.reads(2, 3);
        x.sees(8, 0);
        x.sees(4, 0);
        x.modes(0, 1);
        x.modes(4, 1);
        x.modes(5, 2);
        x.plans(1, 0, 0, 0, 1);
        x.plans(5, 2, 0, 0, 0);
        x.plans(0, 1, 12, 1, 2);
        x.plans(4, 5, 0, 5, 1);
        x.plans(6, 0, 0, 0, 0);
        x.plans(0, 1, 0, 1, 3);
        x.runs();
        return x;
    }

    /** As much as there may be of all: 6 BANKS, 8 VIEWS, 16 LINES, 6 SEEN; no TURNS are open. */
    static WidenedBanks full() {
        WidenedBanks x = rich();
        x.bank(12, 1);
        x.view(5, 0, 1, 2, 8);
        for (int line = x.count(2); line < 16; line++) {
            x.plans(0, 0, 1, 0, 2);
        }
        for (int seen = x.count(4); seen < 6; seen++) {
            x.sees(8, 0);
        }
        return x;
    }

    /** Three TURNS are open, one in the other. */
    static WidenedBanks open() {
        WidenedBanks x = rich();
        x.plans(5, 2, 0, 0, 0);
        x.plans(5, 0, 0, 0, 0);
        x.plans(0, 0, 13, 0, 12);
        x.plans(5, 9, 0, 0, 0);
        return x;
    }

    /** 16 LINES, TURNS among them are open. */
    static WidenedBanks openAndFull() {
        WidenedBanks x = open();
        for (int line = x.count(2); line < 16; line++) {
            x.plans(0, 0, 1, 0, 2);
        }
        return x;
    }

    /** LINES that have to do with no turns, and not in the order of their WAVES. */
    static WidenedBanks plain() {
        WidenedBanks x = rich();
        for (int line = x.count(2); line > 0; line--) {
            x.drops();
        }
        x.plans(0, 0, 0, 0, 1);
        x.plans(0, 0, 1, 0, 2);
        x.plans(4, 1, 0, 1, 1);
        x.plans(0, 0, 5, 0, 6);
        return x;
    }

    /** BANKS and VIEWS, but no LINES, nothing SEEN, nothing that can be UNDONE, no IMAGE. */
    static WidenedBanks bare() {
        WidenedBanks x = new WidenedBanks();
        x.bank(4, 3);
        x.bank(8, 3);
        x.view(0, 0, 1, 3, 4);
        x.view(1, 0, 1, 3, 8);
        return x;
    }
}
