import java.util.ArrayList;
import java.util.List;
import java.util.Random;

/** Long runs of calls, each answer held against the Model's; the seeds are fixed, so each run is the same again. */
public final class ModelTest {
    private static final int[] ODD = {-1, -2, 5, 6, 7, 8, 9, 10, 11, 12, 13, 14, 16, 17, 18, 26, 99,
        Integer.MAX_VALUE, Integer.MIN_VALUE, Integer.MIN_VALUE + 10, 1 << 30};
    private final Random dice;
    private final WidenedBanks real = new WidenedBanks();
    private final Model model = new Model();
    private final List<String> calls = new ArrayList<>();
    private final int oddness;
    private final int flavour;
    /** Whether most places are there, and most KINDS fit, so that much is not refused. */
    private final boolean sane;

    private ModelTest(long seed) {
        dice = new Random(seed);
        flavour = (int) (seed % 8);
        sane = flavour >= 3;
        oddness = flavour == 0 ? 12 : sane ? 250 : 60;
    }

    public static void main(String[] args) {
        int runs = args.length > 0 ? Integer.parseInt(args[0]) : 4000;
        for (int seed = 0; seed < runs && !Due.anyWrong(); seed++) {
            new ModelTest(seed).run();
        }
        Due.end();
    }

    private void run() {
        for (int refusal = 0; sane && refusal <= 6; refusal++) {
            int mode = dice.nextInt(12) == 0 ? 0 : dice.nextInt(5) == 0 ? 2 : 1;
            due("modes(" + refusal + ", " + mode + ")", real.modes(refusal, mode), model.modes(refusal, mode));
        }
        for (int i = 0; i < 505 && !Due.anyWrong(); i++) {
            call(i);
        }
    }

    private int upTo(int least, int most) {
        if (dice.nextInt(oddness) == 0) {
            return ODD[dice.nextInt(ODD.length)];
        }
        return least + dice.nextInt(Math.max(1, most - least + 1));
    }

    private int aView() {
        return upTo(0, Math.max(0, model.views.size() - 1));
    }

    /** Places near the start are more likely to be there. */
    private int aPlace() {
        return upTo(0, dice.nextInt(4) == 0 ? 11 : 4);
    }

    private int aKind(int most) {
        int[] often = {4, 5, 8, 3, 6, 7};
        return dice.nextInt(3) == 0 && most >= 8 ? often[dice.nextInt(often.length)] : upTo(0, most);
    }

    private long aNumber(int kind) {
        long edge = 1L << 60;
        switch (flavour == 3 && kind > 4 ? 1 + dice.nextInt(2) : dice.nextInt(7)) {
            case 0:
                return dice.nextInt(11) - 1;
            case 1:
                return edge - dice.nextInt(300) + 2;
            case 2:
                return -edge + dice.nextInt(300) - 2;
            case 3:
                return dice.nextLong() >> (3 + dice.nextInt(60));
            case 4:
                return (1L << dice.nextInt(62)) + dice.nextInt(5) - 2 + (1L << dice.nextInt(40));
            case 5:
                long[] edges = {0, 1, 2, -1, -128, -129, 127, 128, 65535, 65536, -32768, -32769, 32767, 32768,
                    Integer.MIN_VALUE, Integer.MAX_VALUE, Integer.MIN_VALUE - 1L, Integer.MAX_VALUE + 1L,
                    16777217, 16777219, -16777217, (1L << 53) + 1, (1L << 53) + 3, edge, -edge, edge + 1,
                    Long.MIN_VALUE, Long.MAX_VALUE, 9, 10};
                return edges[dice.nextInt(edges.length)];
            default:
                return kind == 1 ? (byte) dice.nextInt() : kind == 2 ? (char) dice.nextInt()
                        : kind == 3 ? (short) dice.nextInt() : kind == 0 ? dice.nextInt(2) : dice.nextInt();
        }
    }

    private void due(String call, long got, long want) {
        calls.add(call + " -> " + want);
        Due.due(call, got, want);
        if (Due.anyWrong()) {
            calls.forEach(System.out::println);
        }
    }

    private void call(int i) {
        if (i < 14 || dice.nextInt(40) == 0) {
            build(i);
            return;
        }
        switch (dice.nextInt(9)) {
            case 0:
            case 1:
                write();
                break;
            case 2:
                look();
                break;
            case 3:
                step();
                break;
            case 4:
            case 5:
                program();
                break;
            case 6:
                relate();
                break;
            case 7:
                tries();
                break;
            default:
                rest();
        }
    }

    private void build(int i) {
        if (i < 5 || (i >= 14 && dice.nextInt(2) == 0)) {
            int kind = aBankKind();
            int size = sane ? upTo(7, 12) : upTo(1, 12);
            due("bank(" + kind + ", " + size + ")", real.bank(kind, size), model.bank(kind, size));
            return;
        }
        int of = dice.nextInt(2) == 0 ? upTo(0, Math.max(0, model.banks.size() - 1))
                : 10 + upTo(0, Math.max(0, model.views.size() - 1));
        int from = sane && dice.nextInt(8) > 0 ? upTo(0, 2) : dice.nextInt(3) == 0 ? upTo(-20, 20) : upTo(-1, 4);
        int step = dice.nextInt(2) == 0 || sane && dice.nextInt(4) > 0 ? 1 : upTo(-3, 3);
        int count = sane ? upTo(5, 9) : upTo(1, 12);
        int kind = dice.nextInt(2) == 0 ? 8 : aKind(8);
        if (sane && of >= 0 && of < model.banks.size() && dice.nextInt(3) > 0) {
            kind = Math.min(8, model.banks.get(of).kind);
        }
        due("view(" + of + ", " + from + ", " + step + ", " + count + ", " + kind + ")",
                real.view(of, from, step, count, kind), model.view(of, from, step, count, kind));
    }

    private int aBankKind() {
        int[][] kinds = {{}, {8, 9, 10, 11, 12}, {3, 4, 5, 6, 7}, {5, 6, 7, 5, 6, 8}, {8, 8, 9, 10, 4}, {1, 3, 4, 5, 8},
            {4, 5}, {1, 2, 3, 4, 5, 6, 7, 8, 9, 10}};
        int[] some = kinds[flavour];
        return some.length == 0 || dice.nextInt(oddness) == 0 ? aKind(12) : some[dice.nextInt(some.length)];
    }

    private void write() {
        int view = aView();
        int place = aPlace();
        int kind = upTo(0, 10);
        int how = upTo(0, 1);
        if (sane && view >= 0 && view < model.views.size() && dice.nextInt(4) > 0) {
            int own = model.views.get(view).kind;
            kind = own < 8 ? own : flavour == 3 ? 5 + dice.nextInt(3) : kind;
            how = own < 8 ? how : 1;
        }
        long number = sane && kind > 7 ? dice.nextInt(10) : aNumber(kind);
        due("writes(" + view + ", " + place + ", " + kind + ", " + how + ", " + number + "L)",
                real.writes(view, place, kind, how, number), model.writes(view, place, kind, how, number));
    }

    private void look() {
        int place = aPlace();
        if (dice.nextInt(2) == 0) {
            int view = aView();
            due("reads(" + view + ", " + place + ")", real.reads(view, place), model.reads(view, place));
        } else {
            int bank = upTo(0, Math.max(0, model.banks.size() - 1));
            due("looks(" + bank + ", " + place + ")", real.looks(bank, place), model.looks(bank, place));
        }
        due("number()", real.number(), model.number());
        due("kind()", real.kind(), model.kind());
    }

    private void step() {
        int a = aView();
        int b = aView();
        if (dice.nextInt(4) == 0) {
            int order = upTo(0, 2);
            due("copies(" + a + ", " + b + ", " + order + ")", real.copies(a, b, order), model.copies(a, b, order));
            return;
        }
        int step = upTo(0, 4);
        int p = aPlace();
        int q = aPlace();
        due("does(" + step + ", " + a + ", " + p + ", " + b + ", " + q + ")", real.does(step, a, p, b, q),
                model.does(step, a, p, b, q));
    }

    private void program() {
        int which = dice.nextInt(14);
        if (which < 5) {
            plan();
        } else if (which == 5) {
            due("drops()", real.drops(), model.drops());
        } else if (which == 6) {
            int refusal = upTo(0, 6);
            int mode = upTo(sane ? 1 : 0, 2);
            due("modes(" + refusal + ", " + mode + ")", real.modes(refusal, mode), model.modes(refusal, mode));
        } else if (which < 9) {
            due("runs()", real.runs(), model.runs());
            for (int i = -1; i <= 7; i++) {
                due("met(" + i + ")", real.met(i), model.met(i));
            }
        } else if (which < 11) {
            for (int what = -1; what <= 7; what++) {
                due("forecast(" + what + ")", real.forecast(what), model.forecast(what));
            }
        } else if (which == 11) {
            for (int l = -1; l <= model.lines.size(); l++) {
                due("wave(" + l + ")", real.wave(l), model.wave(l));
            }
        } else if (which == 12) {
            due("reorders()", real.reorders(), model.reorders());
        } else {
            int l = upTo(0, 15);
            int what = upTo(0, 4);
            due("line(" + l + ", " + what + ")", real.line(l, what), model.line(l, what));
        }
    }

    private void plan() {
        boolean turns = flavour < 6;
        int line = turns && model.count(3) > 0 && dice.nextInt(3) == 0 ? 6 : upTo(0, turns ? 6 : 4);
        int a = line == 5 ? upTo(0, dice.nextInt(4) == 0 || flavour == 5 ? 9 : 3) : aView();
        int b = aView();
        int p = turns ? upTo(0, 13) : aPlace();
        int q = turns ? upTo(0, 13) : aPlace();
        due("plans(" + line + ", " + a + ", " + p + ", " + b + ", " + q + ")", real.plans(line, a, p, b, q),
                model.plans(line, a, p, b, q));
    }

    private void relate() {
        int a = aView();
        int b = aView();
        due("joins(" + a + ", " + b + ")", real.joins(a, b), model.joins(a, b));
        due("shares(" + a + ", " + b + ")", real.shares(a, b), model.shares(a, b));
        due("safe(" + a + ", " + b + ")", real.safe(a, b), model.safe(a, b));
        int way = upTo(0, 2);
        int kind = upTo(0, 9);
        due("would(" + a + ", " + way + ", " + kind + ")", real.would(a, way, kind), model.would(a, way, kind));
    }

    private void tries() {
        int which = dice.nextInt(6);
        if (which == 0) {
            due("forget()", real.forget(), model.forget());
        } else if (which < 4) {
            int attempt = upTo(0, 25);
            int came = dice.nextInt(4) == 0 ? upTo(0, 3) : dice.nextInt(2) * 3;
            due("sees(" + attempt + ", " + came + ")", real.sees(attempt, came), model.sees(attempt, came));
        }
        for (int what = -1; what <= 2; what++) {
            due("unseen(" + what + ")", real.unseen(what), model.unseen(what));
            due("fewest(" + what + ")", real.fewest(what), model.fewest(what));
        }
    }

    private void rest() {
        int which = dice.nextInt(60);
        int image = upTo(0, 1);
        if (which == 0) {
            due("clear()", real.clear(), model.clear());
            due("number()", real.number(), model.number());
            due("kind()", real.kind(), model.kind());
        } else if (which < 12) {
            due("keep(" + image + ")", real.keep(image), model.keep(image));
        } else if (which < 18) {
            due("back(" + image + ")", real.back(image), model.back(image));
        } else if (which < 50) {
            due("undo()", real.undo(), model.undo());
        }
        for (int what = -1; what <= 6; what++) {
            due("count(" + what + ")", real.count(what), model.count(what));
        }
    }
}
