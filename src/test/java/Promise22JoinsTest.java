/** Promise 22: joins: "The KIND to which the KINDS of both VIEWS WIDEN that WIDENS to all other such ones; NONE .. BAD." */
public final class Promise22JoinsTest extends Promise {
    public static void main(String[] args) {
        viewBounds();
        eachTwoKinds();
        whereThereIsNoneSuch();
        noneWhereOneIs8();
        kindsOfViewsAlone();
        refusedChangesNothing();
        Due.end();
    }

    /** VIEWS 0, 1 of two KINDS. */
    private static WidenedBanks two(int bank, int a, int b) {
        WidenedBanks x = new WidenedBanks();
        x.bank(bank, 1);
        x.view(0, 0, 1, 1, a);
        x.view(0, 0, 1, 1, b);
        return x;
    }

    private static void viewBounds() {
        for (int view : new int[] {-1, 2, 8, MIN, MAX}) {
            due("no such VIEW a: " + view, two(4, 4, 4).joins(view, 0), BAD);
            due("no such VIEW b: " + view, two(4, 4, 4).joins(0, view), BAD);
            due("neither", two(4, 4, 4).joins(view, view), BAD);
        }
        due("BAD ahead of NONE", two(4, 8, 8).joins(0, 2), BAD);
        due("the last VIEW", two(4, 4, 5).joins(1, 1), 5);
    }

    private static void eachTwoKinds() {
        for (int a = 0; a <= 7; a++) {
            for (int b = 0; b <= 7; b++) {
                int want = NONE;
                for (int kind = 0; kind <= 7; kind++) {
                    boolean both = widens(a, kind) && widens(b, kind);
                    boolean toAll = both;
                    for (int other = 0; other <= 7; other++) {
                        toAll &= !(widens(a, other) && widens(b, other)) || widens(kind, other);
                    }
                    if (toAll) {
                        due("only one is so", want, NONE);
                        want = kind;
                    }
                }
                due("joins of " + a + " and " + b, two(4, a, b).joins(0, 1), want);
                due("joins of " + b + " and " + a, two(4, b, a).joins(0, 1), want);
            }
        }
        due("1 and 2", two(4, 1, 2).joins(0, 1), 4);
        due("1 and 3", two(4, 1, 3).joins(0, 1), 3);
        due("2 and 3", two(4, 2, 3).joins(0, 1), 4);
        due("5 and 6", two(4, 5, 6).joins(0, 1), 6);
        due("7 and 1", two(4, 7, 1).joins(0, 1), 7);
        due("a VIEW with itself", two(4, 2, 3).joins(0, 0), 2);
    }

    private static void whereThereIsNoneSuch() {
        due("0 and 0", two(4, 0, 0).joins(0, 1), 0);
        for (int kind = 1; kind <= 7; kind++) {
            due("0 and " + kind, two(4, 0, kind).joins(0, 1), NONE);
            due(kind + " and 0", two(4, kind, 0).joins(0, 1), NONE);
        }
    }

    private static void noneWhereOneIs8() {
        for (int kind = 0; kind <= 8; kind++) {
            due("8 and " + kind, two(4, 8, kind).joins(0, 1), NONE);
            due(kind + " and 8", two(4, kind, 8).joins(0, 1), NONE);
        }
    }

    private static void kindsOfViewsAlone() {
        for (int bank = 0; bank <= 12; bank++) {
            due("whatever BANK: " + bank, two(bank, 1, 2).joins(0, 1), 4);
        }
        WidenedBanks x = two(0, 8, 0);
        x.view(10, -20, 0, 1, 5);
        x.view(11, 20, 3, 1, 3);
        due("whatever VIEW beneath", x.joins(2, 3), 5);
    }

    private static void refusedChangesNothing() {
        Asked rich = new Asked(States::rich);
        rich.stands("BAD: a", BAD, x -> x.joins(7, 0));
        rich.stands("BAD: b", BAD, x -> x.joins(0, -1));
    }
}
