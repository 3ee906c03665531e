/** What the tests of single promises share: the document's constants by value, and a few ways to ask. */
abstract class Promise {
    static final int BAD = -1, STATE = -2, FULL = -3, OUT = -4, GONE = -5, BARE = -6, UNLIKE = -7, PAST = -8, VOID = -9,
            WIDE = -10, SPENT = -11, NONE = -20;
    static final int STOP = 0, SKIP = 1, LEAVE = 2;
    static final int MIN = Integer.MIN_VALUE, MAX = Integer.MAX_VALUE;
    static final long EDGE = 1L << 60;
    /** For each KIND of NUMBERS those to which it WIDENS, as the document lists them. */
    static final String[] WIDENS = {"0", "134567", "24567", "34567", "4567", "567", "67", "7"};

    private static final long MOST_MILLIS = 60000;

    static {
        Thread watch = new Thread(Promise::endInTime);
        watch.setDaemon(true);
        watch.start();
    }

    /** No call may fail to end: a test that hangs must fail, not keep .ci/run waiting. */
    private static void endInTime() {
        try {
            Thread.sleep(MOST_MILLIS);
        } catch (InterruptedException nobodyDoes) {
            return;
        }
        System.out.println("a call has not ended in " + MOST_MILLIS / 1000 + " seconds");
        Runtime.getRuntime().halt(1);
    }

    static void due(String sentence, long got, long want) {
        Due.due(sentence, got, want);
    }

    static boolean widens(int from, int to) {
        return WIDENS[from].indexOf('0' + to) >= 0;
    }

    /** BANK 0 of a KIND, and VIEW 0 of all its CELLS. */
    static WidenedBanks pair(int bankKind, int size, int viewKind) {
        WidenedBanks x = new WidenedBanks();
        x.bank(bankKind, size);
        x.view(0, 0, 1, size, viewKind);
        return x;
    }

    /** BANK 0 of KIND 4 with 12 CELLS that have 0 .. 11, VIEW 0 of all of it; nothing can be UNDONE. */
    static WidenedBanks row() {
        WidenedBanks x = pair(4, 12, 4);
        for (int place = 0; place < 12; place++) {
            x.writes(0, place, 4, 0, place);
        }
        x.keep(0);
        x.back(0);
        return x;
    }

    static void cell(String sentence, WidenedBanks x, int bank, int place, int kind, long number) {
        due(sentence + ": looks(" + bank + ", " + place + ")", x.looks(bank, place), 0);
        told(sentence, x, kind, number);
    }

    static void read(String sentence, WidenedBanks x, int view, int place, int kind, long number) {
        due(sentence + ": reads(" + view + ", " + place + ")", x.reads(view, place), 0);
        told(sentence, x, kind, number);
    }

    static void told(String sentence, WidenedBanks x, int kind, long number) {
        due(sentence + ": number()", x.number(), number);
        due(sentence + ": kind()", x.kind(), kind);
    }

    /** What the CELLS 0, 1, .. of a BANK of NUMBERS have. */
    static void cells(String sentence, WidenedBanks x, int bank, long... numbers) {
        for (int place = 0; place < numbers.length; place++) {
            due(sentence + ": looks(" + bank + ", " + place + ")", x.looks(bank, place), 0);
            due(sentence + ": CELL " + place, x.number(), numbers[place]);
        }
    }
}
