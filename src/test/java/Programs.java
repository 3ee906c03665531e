/** Programs that several tests run. */
final class Programs {
    private Programs() {
    }

    /** LINE r is refused for the refusal r of modes(), met(): OUT, GONE, BARE, UNLIKE, PAST, VOID, WIDE. */
    static WidenedBanks ofEachRefusal() {
        WidenedBanks x = new WidenedBanks();
        x.bank(5, 3);
        x.bank(11, 1);
        x.bank(12, 1);
        x.bank(8, 2);
        x.view(0, 0, 1, 4, 5);
        x.view(1, 0, 1, 1, 8);
        x.view(2, 0, 1, 1, 8);
        x.view(3, 0, 1, 2, 8);
        x.view(0, 0, 1, 4, 4);
        x.writes(0, 0, 5, 0, 1L << 60);
        x.plans(0, 0, 4, 0, 1);
        x.plans(0, 1, 0, 0, 1);
        x.plans(0, 2, 0, 0, 1);
        x.plans(0, 4, 0, 0, 1);
        x.plans(0, 0, 3, 0, 1);
        x.plans(0, 3, 0, 0, 1);
        x.plans(1, 0, 0, 0, 0);
        return x;
    }

    static void turns(WidenedBanks x, int times) {
        x.plans(5, times, 0, 0, 0);
    }

    static void end(WidenedBanks x) {
        x.plans(6, 0, 0, 0, 0);
    }
}
