/** Promise 26: sees, with what the Terms say of TRIES and SEEN. */
public final class Promise26SeesTest extends Promise {
    public static void main(String[] args) {
        attemptBounds();
        cameBounds();
        howMuchThereIs();
        full6();
        badAheadOfFull();
        tries0To8AreTaken();
        tries9To16AreHandedByTheirKind();
        tries17To24AreHandedBy8();
        try25IsAName();
        goneAndBareByAnyTry();
        asABankOfThatKindAnswers();
        theSameAgain();
        refusedChangesNothing();
        Due.end();
    }

    private static void attemptBounds() {
        for (int attempt : new int[] {-1, 26, MIN, MAX}) {
            due("a TRY 0 .. 25: " + attempt, new WidenedBanks().sees(attempt, 0), BAD);
        }
        due("a TRY 0 .. 25: 0", new WidenedBanks().sees(0, 0), 1);
        due("a TRY 0 .. 25: 25", new WidenedBanks().sees(25, 0), 1);
    }

    private static void cameBounds() {
        for (int came : new int[] {-1, 4, MIN, MAX}) {
            due("0 .. 3: " + came, new WidenedBanks().sees(0, came), BAD);
        }
        due("0 .. 3: 0", new WidenedBanks().sees(0, 0), 1);
        due("0 .. 3: 3", new WidenedBanks().sees(0, 3), 1);
    }

    private static void howMuchThereIs() {
        WidenedBanks x = new WidenedBanks();
        for (int much = 1; much <= 6; much++) {
            due("how much there is", x.sees(much, 3), much);
            due("one that was refused is none", x.sees(26, 3), BAD);
            due("count(4)", x.count(4), much);
        }
    }

    private static void full6() {
        WidenedBanks x = new WidenedBanks();
        for (int much = 1; much <= 6; much++) {
            x.sees(8, 0);
        }
        due("FULL: 6", x.sees(0, 0), FULL);
        due("FULL: 6", x.sees(25, 3), FULL);
        due("it tells nothing", x.unseen(1), 2047);
        x.forget();
        due("behind forget()", x.sees(0, 0), 1);
    }

    private static void badAheadOfFull() {
        WidenedBanks x = States.full();
        due("FULL", x.sees(0, 0), FULL);
        due("BAD ahead of FULL: 26", x.sees(26, 0), BAD);
        due("BAD ahead of FULL: -1", x.sees(-1, 0), BAD);
        due("BAD ahead of FULL: 4", x.sees(0, 4), BAD);
        due("BAD ahead of FULL: -1", x.sees(0, -1), BAD);
    }

    /** A TRY came WELL, or UNLIKE: the KINDS (bits) by which that is so. */
    private static void tells(int attempt, int well) {
        WidenedBanks x = new WidenedBanks();
        x.sees(attempt, 0);
        due("TRY " + attempt + " was WELL", x.unseen(1), well);
        WidenedBanks y = new WidenedBanks();
        y.sees(attempt, 3);
        due("TRY " + attempt + " was UNLIKE", y.unseen(1), 2047 & ~well);
    }

    private static void tries0To8AreTaken() {
        for (int by = 0; by <= 7; by++) {
            int well = 0;
            for (int bank = 0; bank <= 7; bank++) {
                well |= widens(bank, by) ? 1 << bank : 0;
            }
            tells(by, well);
        }
        tells(8, 2047);
    }

    private static int widensTo(int from) {
        int well = 0;
        for (int bank = 0; bank <= 7; bank++) {
            well |= widens(from, bank) ? 1 << bank : 0;
        }
        return well;
    }

    private static void tries9To16AreHandedByTheirKind() {
        for (int kind = 0; kind <= 7; kind++) {
            tells(9 + kind, widensTo(kind));
        }
    }

    private static void tries17To24AreHandedBy8() {
        for (int kind = 0; kind <= 7; kind++) {
            tells(17 + kind, widensTo(kind) | 256 | (kind == 4 ? 1024 : 0));
        }
    }

    private static void try25IsAName() {
        tells(25, 256 | 512);
    }

    private static void goneAndBareByAnyTry() {
        for (int attempt = 0; attempt <= 25; attempt++) {
            WidenedBanks x = new WidenedBanks();
            x.sees(attempt, 1);
            due("GONE", x.unseen(1), 2048);
            WidenedBanks y = new WidenedBanks();
            y.sees(attempt, 2);
            due("BARE", y.unseen(1), 4096);
        }
    }

    private static int answered(int bank, int attempt) {
        if (attempt <= 8) {
            return pair(bank, 1, attempt).reads(0, 0);
        }
        if (attempt == 25) {
            return pair(bank, 1, 8).writes(0, 0, 9, 1, 0);
        }
        int kind = (attempt - 9) % 8;
        return attempt <= 16 ? pair(bank, 1, kind).writes(0, 0, kind, 0, 0) : pair(bank, 1, 8).writes(0, 0, kind, 1, 0);
    }

    private static void asABankOfThatKindAnswers() {
        int[] cameAs = {0, GONE, BARE, UNLIKE};
        for (int attempt = 0; attempt <= 25; attempt++) {
            for (int came = 0; came <= 3; came++) {
                WidenedBanks x = new WidenedBanks();
                x.sees(attempt, came);
                for (int bank = 0; bank <= 12; bank++) {
                    due("TRY " + attempt + " at " + bank, x.unseen(1) >> bank & 1, answered(bank, attempt) == cameAs[came] ? 1 : 0);
                }
            }
        }
    }

    private static void theSameAgain() {
        WidenedBanks x = new WidenedBanks();
        due("once", x.sees(3, 0), 1);
        due("the same again counts", x.sees(3, 0), 2);
        due("and tells no more", x.unseen(1), 2 + 8);
        due("what can't be counts, too", x.sees(3, 3), 3);
        due("none is so", x.unseen(0), 0);
        due("still", x.sees(3, 3), 4);
    }

    private static void refusedChangesNothing() {
        Asked rich = new Asked(States::rich);
        rich.stands("BAD: 26", BAD, x -> x.sees(26, 0));
        rich.stands("BAD: -1", BAD, x -> x.sees(-1, 0));
        rich.stands("BAD: came 4", BAD, x -> x.sees(0, 4));
        rich.stands("BAD: came -1", BAD, x -> x.sees(0, -1));
        new Asked(States::full).stands("FULL: 6", FULL, x -> x.sees(0, 0));
    }
}
