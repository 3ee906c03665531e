/** Promise 32: count: "0 BANKS, 1 VIEWS, 2 LINES, 3 TURNS that are open, 4 SEEN, 5 how many may be UNDONE. BAD." */
public final class Promise32CountTest extends Promise {
    public static void main(String[] args) {
        whatBounds();
        banks0To6();
        views0To8();
        lines0To16();
        turnsThatAreOpen0To3();
        seen0To6();
        undone0To10();
        eachOfItsOwn();
        refusedChangesNothing();
        Due.end();
    }

    private static void whatBounds() {
        for (int what : new int[] {-1, 6, MIN, MAX}) {
            due("what 0 .. 5: " + what, States.full().count(what), BAD);
        }
        due("what 0 .. 5: 0", States.full().count(0), 6);
        due("what 0 .. 5: 5", States.full().count(5), 10);
    }

    private static void banks0To6() {
        WidenedBanks x = new WidenedBanks();
        for (int many = 0; many <= 6; many++) {
            due("BANKS", x.count(0), many);
            x.bank(12, 12);
        }
        due("a seventh was refused", x.count(0), 6);
    }

    private static void views0To8() {
        WidenedBanks x = new WidenedBanks();
        x.bank(11, 1);
        for (int many = 0; many <= 8; many++) {
            due("VIEWS", x.count(1), many);
            x.view(0, 0, 1, 1, 0);
        }
        due("a ninth was refused", x.count(1), 8);
    }

    private static void lines0To16() {
        WidenedBanks x = row();
        for (int many = 0; many <= 16; many++) {
            due("LINES", x.count(2), many);
            x.plans(0, 0, 0, 0, 0);
        }
        due("a 17th was refused", x.count(2), 16);
        x.drops();
        due("one is gone", x.count(2), 15);
    }

    private static void turnsThatAreOpen0To3() {
        WidenedBanks x = row();
        for (int open = 0; open <= 3; open++) {
            due("open", x.count(3), open);
            Programs.turns(x, open);
            x.plans(0, 0, 0, 0, 0);
        }
        due("a fourth was refused", x.count(3), 3);
        for (int open = 2; open >= 0; open--) {
            Programs.end(x);
            due("open", x.count(3), open);
        }
        Programs.end(x);
        due("none", x.count(3), 0);
        for (int open = 1; open <= 3; open++) {
            x.drops();
            due("an END is gone", x.count(3), open);
        }
        for (int line = x.count(2); line > 0; line--) {
            x.drops();
        }
        due("all are gone", x.count(3), 0);
    }

    private static void seen0To6() {
        WidenedBanks x = new WidenedBanks();
        for (int many = 0; many <= 6; many++) {
            due("SEEN", x.count(4), many);
            x.sees(0, 3);
        }
        due("a seventh was refused", x.count(4), 6);
        x.forget();
        due("nothing is SEEN", x.count(4), 0);
    }

    private static void undone0To10() {
        WidenedBanks x = row();
        for (int many = 0; many <= 10; many++) {
            due("may be UNDONE", x.count(5), many);
            x.does(0, 0, 0, 0, 1);
        }
        due("10 are known", x.count(5), 10);
        x.undo();
        due("9 more", x.count(5), 9);
        x.keep(0);
        x.back(0);
        due("none behind back()", x.count(5), 0);
    }

    private static void eachOfItsOwn() {
        WidenedBanks x = new WidenedBanks();
        x.bank(4, 1);
        x.bank(4, 1);
        x.bank(4, 1);
        x.view(0, 0, 1, 1, 4);
        x.view(0, 0, 1, 1, 4);
        x.plans(5, 1, 0, 0, 0);
        for (int i = 0; i < 6; i++) {
            x.plans(0, 0, 0, 0, 0);
        }
        for (int i = 0; i < 5; i++) {
            x.sees(0, 0);
        }
        for (int i = 0; i < 4; i++) {
            x.writes(0, 0, 4, 0, i);
        }
        int[] want = {3, 2, 7, 1, 5, 4};
        for (int what = 0; what <= 5; what++) {
            due("count(" + what + ")", x.count(what), want[what]);
        }
    }

    private static void refusedChangesNothing() {
        Asked rich = new Asked(States::rich);
        rich.stands("BAD: 6", BAD, x -> x.count(6));
        rich.stands("BAD: -1", BAD, x -> x.count(-1));
    }
}
