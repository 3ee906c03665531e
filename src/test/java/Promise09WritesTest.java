/** Promise 9: writes, with what the Terms say of KINDS, of ROUNDED, of WRITTEN and of what comes first. */
public final class Promise09WritesTest extends Promise {
    private static final long[][] ENDS = {{0, 1}, {-128, 127}, {0, 65535}, {-32768, 32767}, {MIN, MAX}, {-EDGE, EDGE}, {-EDGE, EDGE}, {-EDGE, EDGE}};

    public static void main(String[] args) {
        viewBounds();
        placeBounds();
        kindBounds();
        howBounds();
        namesAndNothingOnlyBy8();
        numbersOfEachKind();
        nameBounds();
        nothingWithAnyNumber();
        badAheadOfOutAndAll();
        roundedIn6();
        roundedIn7();
        roundedWhereItGoes();
        outFirst();
        byItsKindToEachBank();
        byItsKindToEachView();
        by8ToEachBank();
        by8ToEachView();
        itIsOneOfThatKindThen();
        goneAheadOfAll();
        bareAheadOfAll();
        voidAheadOfPast();
        unlikeAheadOfPast();
        pastOnBothSides();
        aboveAheadOfBeneath();
        byEachViewsOwnKind();
        byEachOfFourViews();
        refusedChangesNothing();
        Due.end();
    }

    private static void viewBounds() {
        WidenedBanks x = States.full();
        for (int view : new int[] {-1, 8, MIN, MAX}) {
            due("no such VIEW: " + view, x.writes(view, 0, 4, 0, 0), BAD);
        }
        due("the first", x.writes(0, 0, 4, 0, 0), 0);
        due("the last", x.writes(7, 0, 4, 1, 0), BARE);
        due("one that is not there yet", row().writes(1, 0, 4, 0, 0), BAD);
    }

    private static void placeBounds() {
        WidenedBanks x = row();
        for (int place : new int[] {-1, 12, MIN, MAX}) {
            due("a place (0 .. 11): " + place, x.writes(0, place, 4, 0, 0), BAD);
        }
        due("a place (0 .. 11): 0", x.writes(0, 0, 4, 0, 70), 0);
        due("a place (0 .. 11): 11", x.writes(0, 11, 4, 0, 71), 0);
        cells("there alone", x, 0, 70, 1, 2, 3, 4, 5, 6, 7, 8, 9, 10, 71);
    }

    private static void kindBounds() {
        for (int kind : new int[] {-1, 8, 11, 12, MIN, MAX}) {
            due("no such KIND: " + kind, pair(8, 1, 8).writes(0, 0, kind, 1, 0), BAD);
            due("no such KIND: " + kind, pair(8, 1, 8).writes(0, 0, kind, 0, 0), BAD);
        }
        for (int kind : new int[] {0, 7, 9, 10}) {
            due("KIND " + kind, pair(8, 1, 8).writes(0, 0, kind, 1, 0), 0);
        }
    }

    private static void howBounds() {
        for (int how : new int[] {-1, 2, MIN, MAX}) {
            due("no such how: " + how, pair(4, 1, 4).writes(0, 0, 4, how, 0), BAD);
            due("no such how: " + how, pair(8, 1, 8).writes(0, 0, 9, how, 0), BAD);
        }
        due("how 0", pair(4, 1, 4).writes(0, 0, 4, 0, 0), 0);
        due("how 1", pair(4, 1, 4).writes(0, 0, 4, 1, 0), 0);
        due("BY its KIND (how = 0) to 8", pair(8, 1, 8).writes(0, 0, 4, 0, 0), UNLIKE);
        due("BY 8 (how = 1) to 8", pair(8, 1, 8).writes(0, 0, 4, 1, 0), 0);
    }

    private static void namesAndNothingOnlyBy8() {
        due("a NAME, how = 0", pair(8, 1, 8).writes(0, 0, 9, 0, 1), BAD);
        due("NOTHING, how = 0", pair(8, 1, 8).writes(0, 0, 10, 0, 1), BAD);
        due("a NAME, how = 1", pair(8, 1, 8).writes(0, 0, 9, 1, 1), 0);
        due("NOTHING, how = 1", pair(8, 1, 8).writes(0, 0, 10, 1, 1), 0);
    }

    private static void numbersOfEachKind() {
        for (int kind = 0; kind <= 7; kind++) {
            for (int how = 0; how <= 1; how++) {
                WidenedBanks x = pair(kind, 2, kind);
                due("one below the least of " + kind, x.writes(0, 0, kind, how, ENDS[kind][0] - 1), BAD);
                due("one above the greatest of " + kind, x.writes(0, 0, kind, how, ENDS[kind][1] + 1), BAD);
                due("far below " + kind, x.writes(0, 0, kind, how, Long.MIN_VALUE), BAD);
                due("far above " + kind, x.writes(0, 0, kind, how, Long.MAX_VALUE), BAD);
                due("nothing was WRITTEN", x.count(5), 0);
                due("the least of " + kind, x.writes(0, 0, kind, how, ENDS[kind][0]), 0);
                due("the greatest of " + kind, x.writes(0, 1, kind, how, ENDS[kind][1]), 0);
                cell("the least", x, 0, 0, kind, ENDS[kind][0]);
                cell("the greatest", x, 0, 1, kind, ENDS[kind][1]);
            }
        }
        WidenedBanks y = pair(5, 1, 5);
        due("a NUMBER of KIND 4 with lower bits that would do", y.writes(0, 0, 4, 0, 1L << 32), BAD);
        due("a NUMBER of KIND 0 with lower bits that would do", pair(0, 1, 0).writes(0, 0, 0, 0, 1L << 32), BAD);
    }

    private static void nameBounds() {
        for (long name : new long[] {-1, 10, 1L << 32, Long.MIN_VALUE, Long.MAX_VALUE}) {
            due("a NAME (0 .. 9): " + name, pair(9, 1, 8).writes(0, 0, 9, 1, name), BAD);
        }
        for (long name : new long[] {0, 9}) {
            WidenedBanks x = pair(9, 1, 8);
            due("a NAME (0 .. 9): " + name, x.writes(0, 0, 9, 1, name), 0);
            cell("the NAME", x, 0, 0, 9, name);
        }
    }

    private static void nothingWithAnyNumber() {
        for (long number : new long[] {0, -1, 10, EDGE + 1, Long.MIN_VALUE, Long.MAX_VALUE}) {
            WidenedBanks x = pair(8, 1, 8);
            x.writes(0, 0, 9, 1, 4);
            due("NOTHING (number: any)", x.writes(0, 0, 10, 1, number), 0);
            cell("NOTHING", x, 0, 0, NONE, 0);
        }
    }

    private static void badAheadOfOutAndAll() {
        WidenedBanks x = new WidenedBanks();
        x.bank(11, 1);
        x.view(0, 0, 1, 1, 4);
        due("OUT", x.writes(0, 1, 4, 0, 0), OUT);
        due("BAD ahead of OUT: number", x.writes(0, 1, 4, 0, 1L << 31), BAD);
        due("BAD ahead of OUT: KIND", x.writes(0, 1, 8, 0, 0), BAD);
        due("BAD ahead of OUT: how", x.writes(0, 1, 4, 2, 0), BAD);
        due("BAD ahead of OUT: NAME, how = 0", x.writes(0, 1, 9, 0, 0), BAD);
        due("GONE", x.writes(0, 0, 4, 0, 0), GONE);
        due("BAD ahead of GONE", x.writes(0, 0, 4, 0, 1L << 31), BAD);
        due("BAD ahead of UNLIKE", x.writes(0, 0, 9, 1, 10), BAD);
    }

    /** As one of KIND 6 or 7, handed BY its KIND, BY 8, and as one of KIND 5 that WIDENS. */
    private static void rounded(int kind, long number, long want) {
        for (int sign = -1; sign <= 1; sign += 2) {
            for (int how = 0; how <= 1; how++) {
                WidenedBanks x = pair(kind, 2, kind);
                due("writes " + sign * number, x.writes(0, 0, kind, how, sign * number), 0);
                cell(sign * number + " ROUNDED in " + kind, x, 0, 0, kind, sign * want);
                due("writes " + sign * number, x.writes(0, 1, 5, how, sign * number), 0);
                cell(sign * number + " of 5 ROUNDED in " + kind, x, 0, 1, kind, sign * want);
            }
        }
    }

    private static void roundedIn6() {
        long two24 = 1L << 24;
        rounded(6, two24 - 1, two24 - 1);
        rounded(6, two24, two24);
        rounded(6, two24 + 1, two24);
        rounded(6, two24 + 2, two24 + 2);
        rounded(6, two24 + 3, two24 + 4);
        rounded(6, two24 + 5, two24 + 4);
        rounded(6, 2 * two24 - 2, 2 * two24 - 2);
        rounded(6, 2 * two24 - 1, 2 * two24);
        rounded(6, 2 * two24 + 1, 2 * two24);
        rounded(6, 2 * two24 + 2, 2 * two24);
        rounded(6, 2 * two24 + 3, 2 * two24 + 4);
        rounded(6, 2 * two24 + 6, 2 * two24 + 8);
        rounded(6, 4 * two24 + 3, 4 * two24);
        rounded(6, 4 * two24 + 4, 4 * two24);
        rounded(6, 4 * two24 + 5, 4 * two24 + 8);
        // Behind 24 digits only 0s: as great as may be, and still the same.
        rounded(6, (two24 - 1) << 36, (two24 - 1) << 36);
        rounded(6, EDGE - (1L << 36), EDGE - (1L << 36));
        rounded(6, EDGE - (1L << 35) - 1, EDGE - (1L << 36));
        rounded(6, EDGE - (1L << 35), EDGE);
        rounded(6, EDGE - 3 * (1L << 35), EDGE - (1L << 37));
        rounded(6, EDGE - 1, EDGE);
        rounded(6, EDGE, EDGE);
    }

    private static void roundedIn7() {
        long two53 = 1L << 53;
        rounded(7, (1L << 24) + 1, (1L << 24) + 1);
        rounded(7, two53 - 1, two53 - 1);
        rounded(7, two53, two53);
        rounded(7, two53 + 1, two53);
        rounded(7, two53 + 2, two53 + 2);
        rounded(7, two53 + 3, two53 + 4);
        rounded(7, 2 * two53 - 1, 2 * two53);
        rounded(7, 2 * two53 + 2, 2 * two53);
        rounded(7, 2 * two53 + 3, 2 * two53 + 4);
        rounded(7, 2 * two53 + 6, 2 * two53 + 8);
        rounded(7, 4 * two53 + 3, 4 * two53);
        rounded(7, 4 * two53 + 4, 4 * two53);
        rounded(7, 4 * two53 + 5, 4 * two53 + 8);
        rounded(7, EDGE - 128, EDGE - 128);
        rounded(7, EDGE - 65, EDGE - 128);
        rounded(7, EDGE - 64, EDGE);
        rounded(7, EDGE - 192, EDGE - 256);
        rounded(7, EDGE - 1, EDGE);
        rounded(7, EDGE, EDGE);
    }

    private static void roundedWhereItGoes() {
        WidenedBanks x = pair(8, 2, 8);
        x.writes(0, 0, 6, 1, 16777217);
        cell("(6, 7: it is ROUNDED) in a CELL of 8, too", x, 0, 0, 6, 16777216);
        x.writes(0, 1, 5, 1, 16777217);
        cell("5 is never ROUNDED", x, 0, 1, 5, 16777217);
        WidenedBanks y = new WidenedBanks();
        y.bank(7, 1);
        y.view(0, 0, 1, 1, 6);
        y.view(10, 0, 1, 1, 5);
        due("5 to 6 to 7", y.writes(1, 0, 5, 0, 16777217), 0);
        cell("ROUNDED in 6, on its way to 7", y, 0, 0, 7, 16777216);
        due("5 to 6, the VIEW that it is handed to, to 7", y.writes(0, 0, 5, 0, 16777219), 0);
        cell("ROUNDED in 6 ahead of 7", y, 0, 0, 7, 16777220);
        WidenedBanks w = pair(7, 1, 7);
        w.view(10, 0, 1, 1, 6);
        w.view(11, 0, 1, 1, 5);
        w.view(12, 0, 1, 1, 4);
        due("4 to 5 to 6 to 7 to 7", w.writes(3, 0, 4, 0, 16777219), 0);
        cell("ROUNDED in 6, in the middle of its way", w, 0, 0, 7, 16777220);
        due("5 to 5 to 6 to 7 to 7", w.writes(2, 0, 5, 0, 16777217), 0);
        cell("ROUNDED in 6, in the middle of its way", w, 0, 0, 7, 16777216);
        WidenedBanks z = pair(7, 1, 7);
        z.writes(0, 0, 6, 0, 16777219);
        cell("of KIND 6, to 7", z, 0, 0, 7, 16777220);
    }

    private static void outFirst() {
        WidenedBanks x = new WidenedBanks();
        x.bank(4, 1);
        x.bank(11, 1);
        x.bank(12, 1);
        for (int bank = 0; bank < 3; bank++) {
            x.view(bank, 0, 1, 1, 4);
            x.view(10 + 2 * bank, -1, 2, 2, 4);
            due("OUT ahead of what the BANK is", x.writes(2 * bank, 1, 4, 0, 0), OUT);
            due("OUT ahead of UNLIKE", x.writes(2 * bank, 1, 5, 0, 0), OUT);
            due("OUT ahead of VOID", x.writes(2 * bank, 1, 10, 1, 0), OUT);
            due("OUT beneath, place -1, ahead of UNLIKE above", x.writes(2 * bank + 1, 0, 5, 0, 0), OUT);
            due("OUT beneath, place COUNT, ahead of VOID above", x.writes(2 * bank + 1, 1, 10, 1, 0), OUT);
            due("OUT above", x.writes(2 * bank + 1, 2, 4, 0, 0), OUT);
        }
        due("nothing was WRITTEN", x.count(5), 0);
    }

    private static void byItsKindToEachBank() {
        for (int by = 0; by <= 7; by++) {
            for (int bank = 0; bank <= 10; bank++) {
                WidenedBanks x = pair(bank, 1, by);
                boolean well = bank <= 7 && widens(by, bank);
                due("BY " + by + " to a BANK of " + bank, x.writes(0, 0, by, 0, 1), well ? 0 : UNLIKE);
            }
        }
    }

    private static void byItsKindToEachView() {
        for (int by = 0; by <= 7; by++) {
            for (int view = 0; view <= 8; view++) {
                WidenedBanks x = pair(view, 1, view);
                boolean well = view <= 7 && widens(by, view);
                due("BY " + by + " to a VIEW of " + view, x.writes(0, 0, by, 0, 1), well ? 0 : UNLIKE);
            }
        }
    }

    private static int by8(int thing, int to) {
        if (to == 8) {
            return 0;
        }
        if (to == 9) {
            return thing >= 9 ? 0 : UNLIKE;
        }
        if (to == 10) {
            return thing == 4 || thing == 10 ? 0 : UNLIKE;
        }
        return thing == 10 ? VOID : thing <= 7 && widens(thing, to) ? 0 : UNLIKE;
    }

    private static void by8ToEachBank() {
        for (int thing : new int[] {0, 1, 2, 3, 4, 5, 6, 7, 9, 10}) {
            for (int bank = 0; bank <= 10; bank++) {
                due("THING " + thing + " BY 8 to a BANK of " + bank, pair(bank, 1, 8).writes(0, 0, thing, 1, 1), by8(thing, bank));
            }
        }
    }

    private static void by8ToEachView() {
        for (int thing : new int[] {0, 1, 2, 3, 4, 5, 6, 7, 9, 10}) {
            for (int view = 0; view <= 8; view++) {
                due("THING " + thing + " BY 8 to a VIEW of " + view, pair(view, 1, view).writes(0, 0, thing, 1, 1), by8(thing, view));
            }
        }
    }

    private static void itIsOneOfThatKindThen() {
        for (int from = 0; from <= 7; from++) {
            for (int to = 0; to <= 7; to++) {
                for (int end = 0; end <= 1 && widens(from, to); end++) {
                    long number = ENDS[from][end];
                    long same = to == 6 && number == MAX ? 1L << 31 : number;
                    WidenedBanks x = pair(to, 2, 8);
                    due("BY 8", x.writes(0, 0, from, 1, number), 0);
                    cell("one of KIND " + to + " then", x, 0, 0, to, same);
                    WidenedBanks y = pair(to, 2, to);
                    due("BY " + from, y.writes(0, 1, from, 0, number), 0);
                    cell("one of KIND " + to + " then", y, 0, 1, to, same);
                }
            }
        }
    }

    /** A BANK without CELLS: whatever is handed to it, at whatever place. */
    private static void without(int bank, int want) {
        WidenedBanks x = new WidenedBanks();
        x.bank(bank, 1);
        x.view(0, -1, 1, 12, 8);
        for (int place = 0; place < 12; place++) {
            due("ahead of VOID, PAST", x.writes(0, place, 10, 1, 0), want);
            due("ahead of UNLIKE, PAST", x.writes(0, place, 9, 1, 0), want);
            due("ahead of PAST", x.writes(0, place, 4, 1, 0), want);
        }
        for (int kind = 0; kind <= 7; kind++) {
            due("BY " + kind, pair(bank, 1, kind).writes(0, 0, kind, 0, 1), want);
        }
    }

    private static void goneAheadOfAll() {
        without(11, GONE);
    }

    private static void bareAheadOfAll() {
        without(12, BARE);
    }

    private static void voidAheadOfPast() {
        for (int bank = 0; bank <= 7; bank++) {
            WidenedBanks x = new WidenedBanks();
            x.bank(bank, 1);
            x.view(0, -1, 1, 3, 8);
            for (int place = 0; place < 3; place++) {
                due("VOID, be it PAST or not", x.writes(0, place, 10, 1, 0), VOID);
            }
            due("PAST alone", x.writes(0, 0, bank, 1, 0), PAST);
            due("PAST alone", x.writes(0, 2, bank, 1, 0), PAST);
            due("VOID at a VIEW of " + bank, pair(bank, 1, bank).writes(0, 0, 10, 1, 0), VOID);
        }
    }

    private static void unlikeAheadOfPast() {
        int[][] unlike = {{4, 5}, {4, 0}, {4, 9}, {0, 4}, {7, 0}, {9, 4}, {10, 9}, {10, 5}};
        for (int[] u : unlike) {
            WidenedBanks x = new WidenedBanks();
            x.bank(u[0], 1);
            x.view(0, -1, 1, 3, 8);
            for (int place = 0; place < 3; place++) {
                due(u[1] + " to " + u[0] + ": UNLIKE, be it PAST or not", x.writes(0, place, u[1], 1, 1), UNLIKE);
            }
        }
    }

    private static void pastOnBothSides() {
        for (int bank = 0; bank <= 10; bank++) {
            WidenedBanks x = new WidenedBanks();
            x.bank(bank, 3);
            x.view(0, -1, 1, 5, 8);
            int thing = bank <= 7 ? bank : 10;
            due("PAST: place -1", x.writes(0, 0, thing, 1, 0), PAST);
            due("the first CELL", x.writes(0, 1, thing, 1, 0), 0);
            due("the last CELL", x.writes(0, 3, thing, 1, 0), 0);
            due("PAST: as many as there are", x.writes(0, 4, thing, 1, 0), PAST);
            due("two were WRITTEN", x.count(5), 2);
        }
    }

    private static void aboveAheadOfBeneath() {
        WidenedBanks x = new WidenedBanks();
        x.bank(11, 1);
        x.bank(12, 1);
        x.bank(4, 1);
        for (int bank = 0; bank < 3; bank++) {
            x.view(bank, 5, 1, 1, 4);
            int beneath = bank == 0 ? GONE : bank == 1 ? BARE : PAST;
            due("beneath", x.writes(bank, 0, 4, 0, 1), beneath);
            due("UNLIKE above ahead of it, BY a KIND", x.writes(bank, 0, 5, 0, 1), UNLIKE);
            due("UNLIKE above ahead of it, BY 8", x.writes(bank, 0, 9, 1, 1), UNLIKE);
            due("VOID above ahead of it", x.writes(bank, 0, 10, 1, 1), VOID);
        }
        WidenedBanks y = new WidenedBanks();
        y.bank(8, 1);
        y.view(0, 0, 1, 1, 4);
        due("UNLIKE beneath", y.writes(0, 0, 4, 0, 1), UNLIKE);
        due("VOID above ahead of UNLIKE beneath", y.writes(0, 0, 10, 1, 1), VOID);
    }

    private static void byEachViewsOwnKind() {
        WidenedBanks x = new WidenedBanks();
        x.bank(5, 1);
        x.view(0, 0, 1, 1, 8);
        x.view(10, 0, 1, 1, 4);
        x.view(10, 0, 1, 1, 8);
        due("a VIEW of 4 hands BY 4 to a VIEW of 8", x.writes(1, 0, 4, 0, 1), UNLIKE);
        due("a VIEW of 8 hands BY 8 to a VIEW of 8", x.writes(2, 0, 4, 1, 1), 0);
        cell("that is handed on", x, 0, 0, 5, 1);
        WidenedBanks y = new WidenedBanks();
        y.bank(6, 1);
        y.view(0, 0, 1, 1, 7);
        due("5 becomes one of 7, which is not one of 6", y.writes(0, 0, 5, 0, 1), UNLIKE);
        due("likewise BY 8", y.writes(0, 0, 5, 1, 1), UNLIKE);
        WidenedBanks z = new WidenedBanks();
        z.bank(10, 1);
        z.view(0, 0, 1, 1, 8);
        z.view(10, 0, 1, 1, 8);
        due("4 through two VIEWS of 8 to 10", z.writes(1, 0, 4, 1, 1), 0);
        due("3 through two VIEWS of 8 to 10", z.writes(1, 0, 3, 1, 1), UNLIKE);
        due("NOTHING through two VIEWS of 8 to 10", z.writes(1, 0, 10, 1, 1), 0);
    }

    /** Of four VIEWS one upon the other any one may refuse; those above it have taken it before. */
    private static void byEachOfFourViews() {
        int[][] chains = {{4, 5, 8, 8}, {4, 4, 5, 8}, {4, 4, 4, 5}, {5, 4, 4, 4}};
        for (int[] chain : chains) {
            WidenedBanks x = new WidenedBanks();
            x.bank(4, 1);
            for (int view = 0; view < 4; view++) {
                x.view(view == 0 ? 0 : 9 + view, 0, 1, 1, chain[view]);
            }
            due("5 to 4 at one of four", x.writes(3, 0, 4, 1, 1), UNLIKE);
            cell("nothing was WRITTEN", x, 0, 0, 4, 0);
        }
        WidenedBanks y = new WidenedBanks();
        y.bank(7, 1);
        int[] widening = {6, 5, 4, 3};
        for (int view = 0; view < 4; view++) {
            y.view(view == 0 ? 0 : 9 + view, 0, 1, 1, widening[view]);
        }
        due("1 to 3 to 4 to 5 to 6 to 7", y.writes(3, 0, 1, 0, -128), 0);
        cell("the NUMBER is the same", y, 0, 0, 7, -128);
    }

    private static void refusedChangesNothing() {
        Asked full = new Asked(States::full);
        full.stands("BAD: VIEW", BAD, x -> x.writes(8, 0, 4, 0, 1));
        full.stands("BAD: place", BAD, x -> x.writes(0, 12, 4, 0, 1));
        full.stands("BAD: KIND", BAD, x -> x.writes(1, 0, 8, 1, 1));
        full.stands("BAD: how", BAD, x -> x.writes(0, 0, 4, 2, 1));
        full.stands("BAD: number", BAD, x -> x.writes(0, 0, 4, 0, 1L << 31));
        full.stands("BAD: a NAME, how = 0", BAD, x -> x.writes(1, 0, 9, 0, 1));
        full.stands("OUT", OUT, x -> x.writes(1, 6, 4, 1, 1));
        full.stands("GONE", GONE, x -> x.writes(6, 0, 4, 1, 1));
        full.stands("BARE", BARE, x -> x.writes(7, 0, 4, 1, 1));
        full.stands("VOID", VOID, x -> x.writes(0, 0, 10, 1, 1));
        full.stands("UNLIKE", UNLIKE, x -> x.writes(0, 0, 5, 0, 1));
        full.stands("UNLIKE beneath", UNLIKE, x -> x.writes(2, 0, 5, 0, 1));
        full.stands("PAST", PAST, x -> x.writes(1, 5, 4, 1, 1));
    }
}
