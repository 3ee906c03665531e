/** Promise 27: forget: "Nothing is SEEN: how much was." */
public final class Promise27ForgetTest extends Promise {
    public static void main(String[] args) {
        nothingWas();
        howMuchWas();
        nothingIsSeen();
        roomFor6Again();
        nothingElseChanges();
        Due.end();
    }

    private static void nothingWas() {
        WidenedBanks x = new WidenedBanks();
        due("nothing was", x.forget(), 0);
        due("again", x.forget(), 0);
        x.sees(26, 0);
        due("one that was refused", x.forget(), 0);
    }

    private static void howMuchWas() {
        WidenedBanks x = new WidenedBanks();
        for (int much = 0; much <= 6; much++) {
            for (int i = 0; i < much; i++) {
                x.sees(i, 3);
            }
            due("how much was", x.forget(), much);
            due("nothing now", x.count(4), 0);
        }
    }

    private static void nothingIsSeen() {
        WidenedBanks x = new WidenedBanks();
        x.sees(0, 1);
        x.sees(0, 2);
        due("none left", x.unseen(0), 0);
        x.forget();
        due("all KINDS again", x.unseen(0), 13);
        due("all KINDS again", x.unseen(1), 8191);
        due("as at first", x.fewest(0), 4);
        due("as at first", x.fewest(1), 4);
    }

    private static void roomFor6Again() {
        WidenedBanks x = States.full();
        due("FULL", x.sees(0, 0), FULL);
        due("6", x.forget(), 6);
        for (int much = 1; much <= 6; much++) {
            due("again", x.sees(8, 0), much);
        }
        due("FULL", x.sees(0, 0), FULL);
    }

    private static void nothingElseChanges() {
        Asked rich = new Asked(() -> {
            WidenedBanks x = States.rich();
            x.forget();
            x.sees(8, 0);
            x.sees(4, 0);
            return x;
        });
        rich.same("SEEN as before", States::rich);
    }
}
