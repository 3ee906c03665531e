/** Promise 1: "No BANKS, no VIEWS, no LINES; all MODES are 0." */
public final class Promise01NewObjectTest extends Promise {
    public static void main(String[] args) {
        noBanks();
        noViews();
        noLines();
        allModesAre0();
        nothingElseEither();
        objectsAreApart();
        the512thCall();
        Due.end();
    }

    private static void noBanks() {
        WidenedBanks x = new WidenedBanks();
        due("no BANKS: count(0)", x.count(0), 0);
        due("no BANKS: looks(0, 0)", x.looks(0, 0), BAD);
        due("no BANKS: view(0, ..)", x.view(0, 0, 1, 1, 4), BAD);
        due("no BANKS: keep(0)", x.keep(0), 0);
        due("no BANKS: clear()", x.clear(), 0);
    }

    private static void noViews() {
        WidenedBanks x = new WidenedBanks();
        x.bank(4, 4);
        due("no VIEWS: count(1)", x.count(1), 0);
        due("no VIEWS: reads(0, 0)", x.reads(0, 0), BAD);
        due("no VIEWS: writes(0, ..)", x.writes(0, 0, 4, 0, 0), BAD);
        due("no VIEWS: does(0, ..)", x.does(0, 0, 0, 0, 0), BAD);
        due("no VIEWS: copies(0, 0, 0)", x.copies(0, 0, 0), BAD);
        due("no VIEWS: view(10, ..)", x.view(10, 0, 1, 1, 4), BAD);
        due("no VIEWS: plans(0, ..)", x.plans(0, 0, 0, 0, 0), BAD);
        due("no VIEWS: joins(0, 0)", x.joins(0, 0), BAD);
        due("no VIEWS: would(0, 0, 0)", x.would(0, 0, 0), BAD);
        due("no VIEWS: shares(0, 0)", x.shares(0, 0), BAD);
        due("no VIEWS: safe(0, 0)", x.safe(0, 0), BAD);
    }

    private static void noLines() {
        WidenedBanks x = new WidenedBanks();
        due("no LINES: count(2)", x.count(2), 0);
        due("no LINES: count(3)", x.count(3), 0);
        due("no LINES: line(0, 0)", x.line(0, 0), BAD);
        due("no LINES: wave(0)", x.wave(0), BAD);
        due("no LINES: drops()", x.drops(), STATE);
        due("no LINES: END", x.plans(6, 0, 0, 0, 0), STATE);
        for (int what = 0; what <= 6; what++) {
            due("no LINES: forecast(" + what + ")", x.forecast(what), 0);
        }
        due("no LINES: reorders()", x.reorders(), 0);
        due("no LINES: runs()", x.runs(), 0);
    }

    private static void allModesAre0() {
        for (int refusal = 0; refusal <= 6; refusal++) {
            due("MODE of " + refusal, new WidenedBanks().modes(refusal, 1), 0);
        }
    }

    private static void nothingElseEither() {
        WidenedBanks x = new WidenedBanks();
        told("nothing was told", x, NONE, 0);
        for (int refusal = 0; refusal <= 6; refusal++) {
            due("nothing was MET: " + refusal, x.met(refusal), 0);
        }
        due("nothing is SEEN: count(4)", x.count(4), 0);
        due("nothing is SEEN: unseen(0)", x.unseen(0), 13);
        due("nothing can be UNDONE: count(5)", x.count(5), 0);
        due("nothing can be UNDONE: undo()", x.undo(), STATE);
        due("no IMAGE 0", x.back(0), STATE);
        due("no IMAGE 1", x.back(1), STATE);
    }

    private static void objectsAreApart() {
        WidenedBanks x = States.full();
        new Asked(WidenedBanks::new).same("beside an object that has all", () -> {
            x.modes(3, 2);
            x.writes(0, 0, 4, 0, 9);
            return new WidenedBanks();
        });
    }

    private static void the512thCall() {
        WidenedBanks x = pair(4, 12, 4);
        for (int call = 3; call <= 508; call++) {
            due("call " + call, x.writes(0, call % 12, 4, 0, call), 0);
        }
        due("call 509", x.undo(), 9);
        due("call 510", x.looks(0, 507 % 12), 0);
        due("call 511", x.number(), 507);
        due("call 512", x.reads(0, 12), BAD);
    }
}
