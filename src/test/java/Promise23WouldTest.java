/** Promise 23: would. */
public final class Promise23WouldTest extends Promise {
    public static void main(String[] args) {
        viewBounds();
        wayBounds();
        kindBoundsByWay();
        way0WereItOfThatKind();
        way1ByItsKindAsItIs();
        way2By8();
        through2Views();
        through4Views();
        goneAndBareComeInTheirOrder();
        withoutPlaces();
        whateverCellsHave();
        asReadsAndWritesAnswer();
        nothingChanges();
        refusedChangesNothing();
        Due.end();
    }

    private static void viewBounds() {
        for (int view : new int[] {-1, 1, 8, MIN, MAX}) {
            for (int way = 0; way <= 2; way++) {
                due("no such VIEW: " + view, row().would(view, way, 4), BAD);
            }
        }
        due("VIEW 0", row().would(0, 0, 4), 0);
    }

    private static void wayBounds() {
        for (int way : new int[] {-1, 3, MIN, MAX}) {
            due("way 0 .. 2: " + way, row().would(0, way, 4), BAD);
        }
        for (int way = 0; way <= 2; way++) {
            due("way 0 .. 2: " + way, row().would(0, way, 4), 0);
        }
    }

    private static void kindBoundsByWay() {
        int[] greatest = {8, 7, 9};
        for (int way = 0; way <= 2; way++) {
            for (int kind = -2; kind <= 13; kind++) {
                boolean there = kind >= 0 && kind <= greatest[way];
                due("way " + way + ", KIND " + kind, pair(8, 1, 8).would(0, way, kind) == BAD ? 1 : 0, there ? 0 : 1);
            }
            due("way " + way + ", KIND MIN", row().would(0, way, MIN), BAD);
            due("way " + way + ", KIND MAX", row().would(0, way, MAX), BAD);
        }
    }

    private static int taken(int bank, int by) {
        if (bank == 11) {
            return GONE;
        }
        if (bank == 12) {
            return BARE;
        }
        return by == 8 || bank <= 7 && widens(bank, by) ? 0 : UNLIKE;
    }

    /** thing: 0 .. 7, 9 a NAME, 10 NOTHING. */
    private static int handed(int thing, int by, int to) {
        if (to >= 11) {
            return to == 11 ? GONE : BARE;
        }
        if (by <= 7) {
            return to <= 7 && widens(by, to) ? 0 : UNLIKE;
        }
        if (to >= 8) {
            return to == 8 || to == 9 && thing >= 9 || to == 10 && (thing == 4 || thing == 10) ? 0 : UNLIKE;
        }
        return thing == 10 ? VOID : thing <= 7 && widens(thing, to) ? 0 : UNLIKE;
    }

    private static int written(int thing, int by, int view, int bank) {
        int refusal = handed(thing, by, view);
        return refusal != 0 ? refusal : handed(view == 8 ? thing : view, view, bank);
    }

    private static void way0WereItOfThatKind() {
        for (int bank = 0; bank <= 12; bank++) {
            for (int view = 0; view <= 8; view++) {
                for (int kind = 0; kind <= 8; kind++) {
                    due("BANK " + bank + ", were it of " + kind, pair(bank, 1, view).would(0, 0, kind), taken(bank, kind));
                }
            }
        }
    }

    private static void way1ByItsKindAsItIs() {
        for (int bank = 0; bank <= 12; bank++) {
            for (int view = 0; view <= 8; view++) {
                for (int kind = 0; kind <= 7; kind++) {
                    due("BY " + kind + " to " + view + " to " + bank, pair(bank, 1, view).would(0, 1, kind), written(kind, kind, view, bank));
                }
            }
        }
    }

    private static void way2By8() {
        for (int bank = 0; bank <= 12; bank++) {
            for (int view = 0; view <= 8; view++) {
                for (int kind = 0; kind <= 9; kind++) {
                    int thing = kind == 8 ? 10 : kind;
                    due(kind + " BY 8 to " + view + " to " + bank, pair(bank, 1, view).would(0, 2, kind), written(thing, 8, view, bank));
                }
            }
        }
    }

    private static void through2Views() {
        WidenedBanks x = pair(3, 1, 5);
        x.view(10, 0, 1, 1, 0);
        due("were it of 4: from 5", x.would(1, 0, 4), UNLIKE);
        due("were it of 5: from 5", x.would(1, 0, 5), 0);
        due("were it of 8: from 5", x.would(1, 0, 8), 0);
        due("the lower one, were it of 4", x.would(0, 0, 4), 0);
        due("the lower one, were it of 2", x.would(0, 0, 2), UNLIKE);
        due("0 to 0 to 5", x.would(1, 1, 0), UNLIKE);
        WidenedBanks y = pair(7, 1, 6);
        y.view(10, 0, 1, 1, 4);
        y.view(11, 0, 1, 1, 8);
        due("2 BY 8 to 8 to 4 to 6 to 7", y.would(2, 2, 2), 0);
        due("5 BY 8 to 8 to 4", y.would(2, 2, 5), UNLIKE);
        due("NOTHING BY 8 to 8 to 4", y.would(2, 2, 8), VOID);
        due("a NAME BY 8 to 8 to 4", y.would(2, 2, 9), UNLIKE);
        due("2 BY 2 to 8", y.would(2, 1, 2), UNLIKE);
        due("were it of 4: from 4 that is UNLIKE from 6", y.would(2, 0, 8), UNLIKE);
    }

    private static void through4Views() {
        int[] kinds = {3, 5, 4, 8};
        WidenedBanks x = new WidenedBanks();
        x.bank(3, 1);
        for (int view = 0; view < 4; view++) {
            x.view(view == 0 ? 0 : 9 + view, 0, 1, 1, kinds[view]);
        }
        due("UNLIKE in the middle: 4 from 5", x.would(3, 0, 8), UNLIKE);
        due("above 5, were it of 6", x.would(2, 0, 6), 0);
        due("above 3, were it of 4", x.would(1, 0, 4), 0);
        due("3 to 4 to 5 to 3: UNLIKE beneath", x.would(2, 1, 3), UNLIKE);
        due("3 to 3", x.would(0, 1, 3), 0);
    }

    private static void goneAndBareComeInTheirOrder() {
        for (int bank = 11; bank <= 12; bank++) {
            int gone = bank == 11 ? GONE : BARE;
            WidenedBanks x = pair(bank, 1, 4);
            x.view(10, 0, 1, 1, 8);
            due("READ: beneath comes first", x.would(1, 0, 0), gone);
            due("WRITTEN: UNLIKE above comes first", x.would(1, 2, 5), UNLIKE);
            due("WRITTEN: VOID above comes first", x.would(1, 2, 8), VOID);
            due("WRITTEN: then beneath", x.would(1, 2, 3), gone);
            WidenedBanks y = pair(bank, 1, 8);
            due("ahead of VOID, which a BANK of 8 would not have", y.would(0, 2, 8), gone);
        }
    }

    private static void withoutPlaces() {
        WidenedBanks x = new WidenedBanks();
        x.bank(4, 1);
        x.view(0, -20, 0, 1, 4);
        x.view(10, 20, 0, 1, 5);
        due("no PAST: way 0", x.would(0, 0, 4), 0);
        due("no PAST: way 1", x.would(0, 1, 4), 0);
        due("no PAST: way 2", x.would(0, 2, 8), VOID);
        due("no OUT: way 0", x.would(1, 0, 6), 0);
        due("no OUT: way 0", x.would(1, 0, 3), UNLIKE);
        due("no OUT: way 1", x.would(1, 1, 6), UNLIKE);
        due("no OUT: way 2", x.would(1, 2, 8), VOID);
    }

    private static void whateverCellsHave() {
        for (int thing : new int[] {0, 4, 7, 9, 10}) {
            WidenedBanks x = pair(8, 1, 8);
            x.writes(0, 0, thing, 1, 1);
            for (int kind = 0; kind <= 8; kind++) {
                due("whatever it has: " + thing, x.would(0, 0, kind), kind == 8 ? 0 : UNLIKE);
            }
        }
    }

    private static void asReadsAndWritesAnswer() {
        for (int bank = 0; bank <= 12; bank++) {
            for (int view = 0; view <= 8; view++) {
                due("as reads() answers", pair(bank, 1, view).would(0, 0, view), pair(bank, 1, view).reads(0, 0));
                for (int kind = 0; kind <= 7; kind++) {
                    due("as writes() answers, BY its KIND", pair(bank, 1, view).would(0, 1, kind), pair(bank, 1, view).writes(0, 0, kind, 0, 0));
                    due("as writes() answers, BY 8", pair(bank, 1, view).would(0, 2, kind), pair(bank, 1, view).writes(0, 0, kind, 1, 0));
                }
                due("NOTHING", pair(bank, 1, view).would(0, 2, 8), pair(bank, 1, view).writes(0, 0, 10, 1, 0));
                due("a NAME", pair(bank, 1, view).would(0, 2, 9), pair(bank, 1, view).writes(0, 0, 9, 1, 0));
            }
        }
    }

    private static void nothingChanges() {
        new Asked(States::rich).same("behind would()", () -> {
            WidenedBanks x = States.rich();
            x.would(1, 2, 8);
            x.would(0, 1, 4);
            x.would(2, 0, 8);
            return x;
        });
    }

    private static void refusedChangesNothing() {
        Asked rich = new Asked(States::rich);
        rich.stands("BAD: VIEW", BAD, x -> x.would(7, 0, 4));
        rich.stands("BAD: way", BAD, x -> x.would(0, 3, 4));
        rich.stands("BAD: KIND", BAD, x -> x.would(0, 1, 8));
        rich.stands("GONE", GONE, x -> x.would(6, 0, 4));
        rich.stands("VOID", VOID, x -> x.would(0, 2, 8));
        rich.stands("UNLIKE", UNLIKE, x -> x.would(0, 1, 5));
    }
}
