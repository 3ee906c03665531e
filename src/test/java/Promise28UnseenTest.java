/** Promise 28: unseen: "UNSEEN: how many (what = 0), which (1; bits). BAD." */
public final class Promise28UnseenTest extends Promise {
    public static void main(String[] args) {
        whatBounds();
        allLeft();
        oneLeft();
        noneLeft();
        byAllThatWasSeen();
        inWhateverOrder();
        howManyOfWhich();
        whateverBanksThereAre();
        refusedChangesNothing();
        Due.end();
    }

    private static void whatBounds() {
        for (int what : new int[] {-1, 2, MIN, MAX}) {
            due("what 0, 1: " + what, new WidenedBanks().unseen(what), BAD);
        }
        due("what 0, 1: 0", new WidenedBanks().unseen(0), 13);
        due("what 0, 1: 1", new WidenedBanks().unseen(1), 8191);
    }

    private static void left(String sentence, WidenedBanks x, int which) {
        due(sentence + ": which", x.unseen(1), which);
        due(sentence + ": how many", x.unseen(0), Integer.bitCount(which));
    }

    private static void allLeft() {
        left("nothing is SEEN: KINDS 0 .. 12", new WidenedBanks(), 8191);
    }

    private static void oneLeft() {
        int[][] seen = {{0, 0, 0}, {1, 1, 0}, {2, 2, 0}, {7, 16, 0}, {11, 0, 1}, {12, 25, 2}};
        for (int[] s : seen) {
            WidenedBanks x = new WidenedBanks();
            x.sees(s[1], s[2]);
            left("KIND " + s[0], x, 1 << s[0]);
        }
        WidenedBanks y = new WidenedBanks();
        y.sees(17, 3);
        y.sees(7, 3);
        left("9, 10", y, 512 + 1024);
        y.sees(21, 0);
        left("10", y, 1024);
        WidenedBanks z = new WidenedBanks();
        z.sees(25, 0);
        z.sees(24, 0);
        left("8", z, 256);
        WidenedBanks w = new WidenedBanks();
        w.sees(25, 0);
        w.sees(24, 3);
        left("9", w, 512);
    }

    private static void noneLeft() {
        for (int attempt = 0; attempt <= 25; attempt++) {
            for (int one = 0; one <= 3; one++) {
                for (int other = 0; other <= 3; other++) {
                    if (one != other) {
                        WidenedBanks x = new WidenedBanks();
                        x.sees(attempt, one);
                        x.sees(attempt, other);
                        left("one TRY came in two ways", x, 0);
                    }
                }
            }
        }
        WidenedBanks y = new WidenedBanks();
        y.sees(8, 3);
        left("no CELL is UNLIKE BY 8", y, 0);
        y.sees(8, 0);
        left("and it stays so", y, 0);
    }

    private static void byAllThatWasSeen() {
        WidenedBanks x = new WidenedBanks();
        x.sees(8, 0);
        left("with CELLS", x, 2047);
        x.sees(7, 0);
        left("1 .. 7", x, 254);
        x.sees(13, 3);
        left("1, 2, 3", x, 14);
        x.sees(3, 0);
        left("1, 3", x, 10);
        x.sees(12, 3);
        left("1", x, 2);
        x.sees(1, 0);
        left("1, by six", x, 2);
    }

    private static void inWhateverOrder() {
        int[][] seen = {{7, 0}, {13, 3}, {3, 0}};
        int[][] orders = {{0, 1, 2}, {0, 2, 1}, {1, 0, 2}, {1, 2, 0}, {2, 0, 1}, {2, 1, 0}};
        for (int[] order : orders) {
            WidenedBanks x = new WidenedBanks();
            for (int one : order) {
                x.sees(seen[one][0], seen[one][1]);
            }
            left("1, 3", x, 10);
        }
    }

    private static void howManyOfWhich() {
        for (int attempt = 0; attempt <= 25; attempt++) {
            for (int came = 0; came <= 3; came++) {
                WidenedBanks x = new WidenedBanks();
                x.sees(attempt, came);
                due("as many as there are bits", x.unseen(0), Integer.bitCount(x.unseen(1)));
            }
        }
    }

    private static void whateverBanksThereAre() {
        WidenedBanks x = row();
        x.reads(0, 0);
        left("only what was told by sees()", x, 8191);
    }

    private static void refusedChangesNothing() {
        Asked rich = new Asked(States::rich);
        rich.stands("BAD: 2", BAD, x -> x.unseen(2));
        rich.stands("BAD: -1", BAD, x -> x.unseen(-1));
    }
}
