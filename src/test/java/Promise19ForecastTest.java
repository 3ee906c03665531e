/** Promise 19: forecast, with what the Terms say of FORECAST. */
public final class Promise19ForecastTest extends Promise {
    public static void main(String[] args) {
        whatBounds();
        stateTurnsAreOpen();
        badAheadOfState();
        noLinesAtAll();
        oneOfEach();
        whateverTheModes();
        noNumberIsLookedAt();
        nothingChanges();
        the60thStepAndTheNext();
        turnsOf0Times();
        placesByTurns();
        places12And13OutsideOfTurns();
        movedReadFirst();
        movedWrittenThen();
        openWhereItReads8To10();
        notOpenWhereThatIsRefused();
        notOpenWhereItIsOnlyWritten();
        openAheadOfAllBehindIt();
        ofTwoReadsTheFirst();
        openAheadOfUnlikeTerms();
        unlikeTerms();
        sumsWrittenByTheirKind();
        swappedBothWays();
        wideMayCome();
        unlikeOfTheWriteThoughWideMayComeBefore();
        asReadsAreToldOneBehindTheOther();
        throughViews();
        theKindThatViewsMakeOfIt();
        voidIsNeverForetold();
        refusedChangesNothing();
        Due.end();
    }

    private static void tally(String sentence, WidenedBanks x, int... want) {
        for (int what = 0; what <= 6; what++) {
            due(sentence + ": forecast(" + what + ")", x.forecast(what), want[what]);
        }
    }

    /** One LINE on an object: what it is foretold as (0 .. 6). */
    private static void one(String sentence, WidenedBanks x, int foretold, int step, int a, int p, int b, int q) {
        due(sentence + ": plans", x.plans(step, a, p, b, q), 1);
        for (int what = 0; what <= 6; what++) {
            due(sentence + ": forecast(" + what + ")", x.forecast(what), what == foretold ? 1 : 0);
        }
        due(sentence + ": drops", x.drops(), 0);
    }

    private static void whatBounds() {
        WidenedBanks x = row();
        x.plans(0, 0, 0, 0, 1);
        for (int what : new int[] {-1, 7, MIN, MAX}) {
            due("what 0 .. 6: " + what, x.forecast(what), BAD);
        }
        due("what 0 .. 6: 0", x.forecast(0), 0);
        due("what 0 .. 6: 6", x.forecast(6), 1);
    }

    private static void stateTurnsAreOpen() {
        WidenedBanks x = row();
        Programs.turns(x, 0);
        tally("TURNS are open", x, STATE, STATE, STATE, STATE, STATE, STATE, STATE);
        Programs.turns(x, 2);
        Programs.end(x);
        tally("one of two is open", x, STATE, STATE, STATE, STATE, STATE, STATE, STATE);
        Programs.end(x);
        tally("none are open", x, 0, 0, 0, 0, 0, 0, 0);
    }

    private static void badAheadOfState() {
        WidenedBanks x = States.open();
        due("BAD ahead of STATE: 7", x.forecast(7), BAD);
        due("BAD ahead of STATE: -1", x.forecast(-1), BAD);
        due("STATE", x.forecast(6), STATE);
    }

    private static void noLinesAtAll() {
        tally("no LINES", row(), 0, 0, 0, 0, 0, 0, 0);
        tally("no LINES, new", new WidenedBanks(), 0, 0, 0, 0, 0, 0, 0);
    }

    private static void oneOfEach() {
        // What is VOID in a RUN is OPEN here, what is WIDE is WELL.
        tally("one of each", Programs.ofEachRefusal(), 1, 1, 1, 1, 1, 1, 1);
    }

    private static void whateverTheModes() {
        for (int mode = 0; mode <= 2; mode++) {
            WidenedBanks x = Programs.ofEachRefusal();
            for (int refusal = 0; refusal <= 6; refusal++) {
                x.modes(refusal, mode);
            }
            tally("all LINES are gone through", x, 1, 1, 1, 1, 1, 1, 1);
            WidenedBanks y = row();
            y.view(0, 0, 1, 1, 4);
            y.modes(0, mode);
            Programs.turns(y, 5);
            y.plans(0, 1, 1, 0, 0);
            y.plans(0, 0, 1, 0, 0);
            Programs.end(y);
            y.plans(0, 0, 1, 0, 0);
            tally("all turns are gone through", y, 5, 0, 0, 0, 0, 0, 6);
        }
    }

    private static void noNumberIsLookedAt() {
        for (int thing : new int[] {0, 1, 4, 7, 9, 10}) {
            WidenedBanks x = pair(8, 3, 8);
            x.bank(4, 3);
            x.view(1, 0, 1, 3, 4);
            x.writes(0, 0, thing, 1, 1);
            one("whatever THING is MOVED", x, 5, 0, 0, 0, 1, 0);
            one("whatever THING is summed", x, 5, 1, 0, 0, 1, 0);
            one("whatever THING is SWAPPED", x, 5, 4, 0, 0, 0, 1);
        }
    }

    private static void nothingChanges() {
        new Asked(States::rich).same("behind forecast()", () -> {
            WidenedBanks x = States.rich();
            for (int what = 0; what <= 6; what++) {
                x.forecast(what);
            }
            return x;
        });
    }

    private static void the60thStepAndTheNext() {
        WidenedBanks x = row();
        x.view(0, 0, 1, 1, 4);
        Programs.turns(x, 9);
        for (int i = 0; i < 6; i++) {
            x.plans(0, 0, 1, 0, 0);
        }
        Programs.end(x);
        for (int i = 0; i < 5; i++) {
            x.plans(0, 0, 1, 0, 0);
        }
        tally("59", x, 0, 0, 0, 0, 0, 0, 59);
        x.plans(0, 1, 1, 0, 0);
        tally("the 60th is OUT", x, 1, 0, 0, 0, 0, 0, 59);
        x.plans(0, 1, 1, 0, 0);
        tally("there it ends: the 61st", x, 1, 0, 0, 0, 0, 0, 59);
        x.plans(0, 0, 1, 0, 0);
        tally("there it ends: the 62nd", x, 1, 0, 0, 0, 0, 0, 59);
        WidenedBanks y = row();
        for (int i = 0; i < 3; i++) {
            Programs.turns(y, 9);
        }
        y.plans(0, 0, 1, 0, 0);
        for (int i = 0; i < 3; i++) {
            Programs.end(y);
        }
        tally("60 of 729", y, 0, 0, 0, 0, 0, 0, 60);
    }

    private static void turnsOf0Times() {
        WidenedBanks x = row();
        Programs.turns(x, 0);
        Programs.turns(x, 9);
        x.plans(0, 0, 1, 0, 0);
        Programs.end(x);
        x.plans(0, 0, 1, 0, 0);
        Programs.end(x);
        tally("0 times", x, 0, 0, 0, 0, 0, 0, 0);
        x.plans(0, 0, 1, 0, 0);
        tally("one behind them", x, 0, 0, 0, 0, 0, 0, 1);
        WidenedBanks y = row();
        for (int i = 0; i < 3; i++) {
            Programs.turns(y, 9);
        }
        for (int i = 0; i < 3; i++) {
            Programs.end(y);
        }
        tally("729 turns, no STEP", y, 0, 0, 0, 0, 0, 0, 0);
    }

    private static void placesByTurns() {
        WidenedBanks x = row();
        x.view(0, 8, 1, 6, 4);
        Programs.turns(x, 9);
        x.plans(0, 1, 12, 0, 0);
        Programs.end(x);
        tally("12: 4 CELLS, 2 PAST, 3 OUT", x, 3, 0, 0, 0, 2, 0, 4);
        WidenedBanks y = row();
        y.view(0, 8, 1, 6, 4);
        Programs.turns(y, 9);
        Programs.turns(y, 2);
        y.plans(0, 0, 12, 1, 13);
        Programs.end(y);
        Programs.end(y);
        tally("13: those about these", y, 6, 0, 0, 0, 4, 0, 8);
    }

    private static void places12And13OutsideOfTurns() {
        for (int place = 12; place <= 13; place++) {
            WidenedBanks x = row();
            x.view(0, 0, 1, 1, 4);
            one("0 where there are none such: p", x, 6, 0, 1, place, 0, 0);
            one("0 where there are none such: q", x, 6, 0, 0, 0, 1, place);
        }
        WidenedBanks y = row();
        y.view(0, 0, 1, 1, 4);
        Programs.turns(y, 3);
        y.plans(0, 1, 13, 1, 13);
        Programs.end(y);
        tally("13 in one TURNS is 0", y, 0, 0, 0, 0, 0, 0, 3);
    }

    /** BANKS 4, 11, 12, 8, 9, 10. VIEWS: 0 of 4 (PAST at 1), 1 GONE, 2 BARE, 3, 4, 5 of 8, 9, 10 (PAST at 1), 6 of 4 BY 3, 7 of 8 BY 4. */
    private static WidenedBanks allBanks() {
        WidenedBanks x = new WidenedBanks();
        x.bank(4, 1);
        x.bank(11, 1);
        x.bank(12, 1);
        x.bank(8, 1);
        x.bank(9, 1);
        x.bank(10, 1);
        x.view(0, 0, 1, 2, 4);
        x.view(1, 0, 1, 2, 8);
        x.view(2, 0, 1, 2, 8);
        x.view(3, 0, 1, 2, 8);
        x.view(4, 0, 1, 2, 8);
        x.view(5, 0, 1, 2, 8);
        x.view(0, 0, 1, 2, 3);
        x.view(3, 0, 1, 2, 4);
        return x;
    }

    private static void movedReadFirst() {
        WidenedBanks x = allBanks();
        one("OUT of a", x, 0, 0, 0, 2, 0, 0);
        one("GONE of a", x, 1, 0, 1, 0, 0, 0);
        one("BARE of a", x, 2, 0, 2, 0, 0, 0);
        one("UNLIKE of a", x, 3, 0, 6, 0, 0, 0);
        one("PAST of a", x, 4, 0, 0, 1, 0, 0);
        one("OUT of a ahead of GONE", x, 0, 0, 1, 2, 0, 0);
        one("UNLIKE of a ahead of PAST of a", x, 3, 0, 6, 1, 0, 0);
        one("PAST of a ahead of OUT of b", x, 4, 0, 0, 1, 0, 2);
        one("GONE of a ahead of BARE of b", x, 1, 0, 1, 0, 2, 0);
    }

    private static void movedWrittenThen() {
        WidenedBanks x = allBanks();
        one("OUT of b", x, 0, 0, 0, 0, 0, 2);
        one("PAST of b", x, 4, 0, 0, 0, 0, 1);
        one("BY 4 to a VIEW of 8 of GONE: UNLIKE above", x, 3, 0, 0, 0, 1, 0);
        one("BY 4 to a VIEW of 8", x, 3, 0, 0, 0, 3, 0);
        one("OUT of b ahead of UNLIKE", x, 0, 0, 0, 0, 1, 2);
        one("UNLIKE of b ahead of PAST", x, 3, 0, 0, 0, 3, 1);
        WidenedBanks y = new WidenedBanks();
        y.bank(4, 1);
        y.bank(11, 1);
        y.bank(12, 1);
        y.bank(9, 1);
        y.bank(10, 1);
        y.view(0, 0, 1, 1, 8);
        y.view(1, 0, 1, 1, 8);
        y.view(2, 0, 1, 1, 8);
        y.view(3, 0, 1, 1, 8);
        y.view(4, 0, 1, 1, 8);
        one("4 BY 8 to GONE", y, 1, 0, 0, 0, 1, 0);
        one("4 BY 8 to BARE", y, 2, 0, 0, 0, 2, 0);
        one("4 BY 8 to NAMES", y, 3, 0, 0, 0, 3, 0);
        one("4 BY 8 to 10", y, 6, 0, 0, 0, 4, 0);
    }

    private static void openWhereItReads8To10() {
        for (int view = 3; view <= 5; view++) {
            one("MOVED", allBanks(), 5, 0, view, 0, view, 0);
            for (int step = 1; step <= 4; step++) {
                one("both", allBanks(), 5, step, view, 0, view, 0);
                one("a's", allBanks(), 5, step, view, 0, 0, 0);
                one("b's", allBanks(), 5, step, 0, 0, view, 0);
            }
        }
    }

    private static void notOpenWhereThatIsRefused() {
        for (int step = 0; step <= 4; step++) {
            one("OUT of 8", allBanks(), 0, step, 3, 2, 3, 0);
            one("PAST of 8", allBanks(), 4, step, 3, 1, 3, 0);
            one("UNLIKE of 8", allBanks(), 3, step, 7, 0, 3, 0);
            one("PAST of 9", allBanks(), 4, step, 4, 1, 3, 0);
            one("PAST of 10", allBanks(), 4, step, 5, 1, 3, 0);
        }
        for (int step = 1; step <= 4; step++) {
            one("OUT of 8 as b", allBanks(), 0, step, 0, 0, 3, 2);
            one("PAST of 8 as b", allBanks(), 4, step, 0, 0, 3, 1);
            one("UNLIKE of 8 as b", allBanks(), 3, step, 0, 0, 7, 0);
        }
    }

    private static void notOpenWhereItIsOnlyWritten() {
        WidenedBanks x = new WidenedBanks();
        x.bank(4, 1);
        x.bank(8, 1);
        x.view(0, 0, 1, 1, 8);
        x.view(1, 0, 1, 1, 8);
        one("MOVED from 4 to 8", x, 6, 0, 0, 0, 1, 0);
    }

    private static void openAheadOfAllBehindIt() {
        for (int step = 0; step <= 4; step++) {
            one("OPEN of a, OUT of b", allBanks(), 5, step, 3, 0, 0, 2);
            one("OPEN of a, PAST of b", allBanks(), 5, step, 3, 0, 0, 1);
            one("OPEN of a, GONE of b", allBanks(), 5, step, 3, 0, 1, 0);
            one("OPEN of a, BARE of b", allBanks(), 5, step, 3, 0, 2, 0);
            one("OPEN of a, UNLIKE of b", allBanks(), 5, step, 3, 0, 6, 0);
        }
    }

    private static void ofTwoReadsTheFirst() {
        for (int step = 1; step <= 4; step++) {
            WidenedBanks x = allBanks();
            one("OUT of a, PAST of b", x, 0, step, 0, 2, 0, 1);
            one("PAST of a, OUT of b", x, 4, step, 0, 1, 0, 2);
            one("GONE of a, BARE of b", x, 1, step, 1, 0, 2, 0);
            one("BARE of a, GONE of b", x, 2, step, 2, 0, 1, 0);
            one("UNLIKE of a, OPEN of b", x, 3, step, 6, 0, 3, 0);
            one("OUT of b", x, 0, step, 0, 0, 0, 2);
            one("GONE of b", x, 1, step, 0, 0, 1, 0);
            one("BARE of b", x, 2, step, 0, 0, 2, 0);
            one("PAST of b", x, 4, step, 0, 0, 0, 1);
            one("UNLIKE of b", x, 3, step, 0, 0, 6, 0);
        }
    }

    private static void openAheadOfUnlikeTerms() {
        for (int step = 1; step <= 3; step++) {
            WidenedBanks x = new WidenedBanks();
            x.bank(0, 1);
            x.bank(8, 1);
            x.view(0, 0, 1, 2, 0);
            x.view(1, 0, 1, 2, 8);
            one("a of KIND 0, then OPEN of b", x, 5, step, 0, 0, 1, 0);
            one("OPEN of a, then b of KIND 0", x, 5, step, 1, 0, 0, 0);
            one("a of KIND 0, then OUT of b", x, 0, step, 0, 0, 1, 2);
            one("a of KIND 0, then PAST of b", x, 4, step, 0, 0, 1, 1);
        }
    }

    private static void unlikeTerms() {
        for (int step = 1; step <= 3; step++) {
            WidenedBanks x = new WidenedBanks();
            x.bank(0, 2);
            x.bank(5, 2);
            x.view(0, 0, 1, 2, 0);
            x.view(1, 0, 1, 2, 5);
            x.view(0, 0, 1, 2, 8);
            one("a of KIND 0", x, 3, step, 0, 0, 1, 0);
            one("b of KIND 0", x, 3, step, 1, 0, 0, 0);
            one("a of KIND 0 BY 8", x, 3, step, 2, 0, 1, 0);
            one("b of KIND 0 BY 8", x, 3, step, 1, 0, 2, 0);
            one("none of KIND 0", x, 6, step, 1, 0, 1, 1);
        }
        WidenedBanks y = pair(0, 2, 0);
        one("KIND 0 may be MOVED", y, 6, 0, 0, 0, 0, 1);
        one("KIND 0 may be SWAPPED", y, 6, 4, 0, 0, 0, 1);
    }

    private static void sumsWrittenByTheirKind() {
        for (int a = 1; a <= 7; a++) {
            for (int b = 1; b <= 7; b++) {
                int wider = Math.max(4, Math.max(a, b));
                for (int any = 0; any <= 1; any++) {
                    WidenedBanks x = pair(a, 1, a);
                    x.bank(b, 1);
                    x.view(1, 0, 1, 1, any == 1 ? 8 : b);
                    one("a sum of " + a + " and " + b, x, widens(wider, b) ? 6 : 3, 1, 0, 0, 1, 0);
                }
            }
        }
        WidenedBanks y = pair(4, 1, 5);
        one("READ as 5, so it is 5 that goes to 4", y, 3, 1, 0, 0, 0, 0);
    }

    private static void swappedBothWays() {
        for (int a = 0; a <= 7; a++) {
            for (int b = 0; b <= 7; b++) {
                for (int any = 0; any <= 1; any++) {
                    WidenedBanks x = pair(a, 1, any == 1 ? 8 : a);
                    x.bank(b, 1);
                    x.view(1, 0, 1, 1, any == 1 ? 8 : b);
                    one("SWAPPED " + a + " and " + b, x, widens(a, b) && widens(b, a) ? 6 : 3, 4, 0, 0, 1, 0);
                }
            }
        }
    }

    private static void wideMayCome() {
        for (int kind = 5; kind <= 7; kind++) {
            WidenedBanks x = pair(kind, 2, kind);
            x.writes(0, 0, kind, 0, EDGE);
            x.writes(0, 1, kind, 0, EDGE);
            one("else it is WELL", x, 6, 1, 0, 0, 0, 1);
            due("and WIDE comes", x.does(1, 0, 0, 0, 1), WIDE);
        }
    }

    /** No NUMBER is looked at: of a sum that may be WIDE the refusal of its WRITE is foretold all the same. */
    private static void unlikeOfTheWriteThoughWideMayComeBefore() {
        for (int kind = 5; kind <= 7; kind++) {
            int lesser = kind - 1;
            long most = lesser == 4 ? MAX : EDGE;
            WidenedBanks x = pair(kind, 1, kind);
            x.bank(lesser, 1);
            x.view(1, 0, 1, 1, kind);
            x.view(1, 0, 1, 1, lesser);
            String what = "a sum of KIND " + kind + " to a CELL of " + lesser;
            one(what, x, 3, 1, 0, 0, 1, 0);
            due(what + ": UNLIKE comes", x.does(1, 0, 0, 1, 0), UNLIKE);
            x.writes(0, 0, kind, 0, EDGE);
            x.writes(2, 0, lesser, 0, most);
            due(what + ": WIDE comes before it", x.does(1, 0, 0, 1, 0), WIDE);
            one(what + ", foretold as before", x, 3, 1, 0, 0, 1, 0);
        }
    }

    /** READ a, READ b, the terms, WRITTEN: the first of these that is refused so, or is OPEN, counts. */
    private static void asReadsAreToldOneBehindTheOther() {
        for (int step = 1; step <= 4; step++) {
            for (int any = 3; any <= 5; any++) {
                WidenedBanks x = allBanks();
                one("a is OPEN, b's READ OUT", x, 5, step, any, 0, 0, 2);
                one("a is OPEN, b's READ GONE", x, 5, step, any, 0, 1, 0);
                one("a is OPEN, b's READ BARE", x, 5, step, any, 0, 2, 0);
                one("a is OPEN, b's READ UNLIKE", x, 5, step, any, 0, 6, 0);
                one("a is OPEN, b's READ PAST", x, 5, step, any, 0, 0, 1);
                one("a is OUT, b OPEN", x, 0, step, 0, 2, any, 0);
                one("a is GONE, b OPEN", x, 1, step, 1, 0, any, 0);
                one("a is PAST, b OPEN", x, 4, step, any, 1, any, 0);
                one("a is WELL, b OPEN, WRITTEN UNLIKE", x, 5, step, 0, 0, any, 0);
            }
        }
    }

    private static void throughViews() {
        WidenedBanks x = pair(1, 1, 3);
        x.view(10, 0, 1, 1, 8);
        x.view(11, 0, 1, 1, 8);
        x.bank(3, 1);
        x.bank(1, 1);
        x.view(1, 0, 1, 1, 8);
        x.view(2, 0, 1, 1, 8);
        one("1 as 3, BY 8 to 3", x, 6, 0, 2, 0, 3, 0);
        one("1 as 3, BY 8 to 1", x, 3, 0, 2, 0, 4, 0);
        x.view(10, 0, 2, 2, 3);
        one("OUT beneath a", x, 0, 0, 5, 1, 3, 0);
        one("OUT beneath b", x, 0, 0, 3, 0, 5, 1);
        x.view(11, 0, 1, 1, 3);
        one("from a VIEW of 8 BY 3: UNLIKE", x, 3, 0, 6, 0, 3, 0);
        WidenedBanks y = pair(8, 1, 8);
        y.view(10, 0, 1, 1, 8);
        y.view(11, 0, 1, 1, 8);
        one("OPEN through three VIEWS", y, 5, 0, 2, 0, 2, 0);
    }

    private static void theKindThatViewsMakeOfIt() {
        for (int bank = 0; bank <= 7; bank++) {
            for (int lower = 0; lower <= 7; lower++) {
                for (int to = 0; to <= 7 && widens(bank, lower); to++) {
                    WidenedBanks x = pair(bank, 1, bank);
                    x.view(10, 0, 1, 1, lower);
                    x.view(11, 0, 1, 1, 8);
                    x.view(12, 0, 1, 1, 8);
                    x.bank(to, 1);
                    x.view(1, 0, 1, 1, 8);
                    String what = bank + " as " + lower + " BY 8 to " + to;
                    one(what + ", two upon it", x, widens(lower, to) ? 6 : 3, 0, 2, 0, 4, 0);
                    one(what + ", three upon it", x, widens(lower, to) ? 6 : 3, 0, 3, 0, 4, 0);
                    int came = x.does(0, 3, 0, 4, 0);
                    due(what + ", and so it comes", came, widens(lower, to) ? 0 : UNLIKE);
                }
            }
        }
    }

    private static void voidIsNeverForetold() {
        WidenedBanks x = pair(8, 1, 8);
        x.bank(4, 1);
        x.view(1, 0, 1, 1, 8);
        one("NOTHING to 4", x, 5, 0, 0, 0, 1, 0);
        due("it is VOID", x.does(0, 0, 0, 1, 0), VOID);
    }

    private static void refusedChangesNothing() {
        Asked open = new Asked(States::open);
        open.stands("STATE", STATE, x -> x.forecast(6));
        open.stands("BAD: 7", BAD, x -> x.forecast(7));
        new Asked(States::rich).stands("BAD: -1", BAD, x -> x.forecast(-1));
    }
}
