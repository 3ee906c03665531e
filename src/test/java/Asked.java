import java.util.ArrayList;
import java.util.List;

/**
 * All that can be asked of an object. Each group of questions is put to an object of its own, since some
 * questions change it and since no object is asked more than 512 times.
 */
final class Asked {
    interface Made {
        WidenedBanks make();
    }

    interface Call {
        long on(WidenedBanks x);
    }

    private static final int TOLD = 0, LOOKS = 1, READS = 2, LINES = 3, PAIRS = 4, WOULD = 5, TRIES = 6, RUNS = 7,
            PLANS = 8, BACK = 9, UPON = 11, UNDO = 19, GROUPS = 30;

    private final Made made;
    private final List<String> before = new ArrayList<>();

    Asked(Made made) {
        this.made = made;
        for (int group = 0; group < GROUPS; group++) {
            before.add(answers(made.make(), group, true));
        }
        for (int group = 0; group < GROUPS; group++) {
            Due.holds("the questions tell the same twice", before.get(group).equals(answers(made.make(), group, true)));
        }
    }

    /** The call is refused so, and all that can be asked is as it was before. */
    void stands(String sentence, int want, Call call) {
        refused(sentence, want, call, true);
    }

    /** A RUN is refused so, and all that can be asked is as it was before, but for what was MET. */
    void standsButMet(String sentence, int want) {
        refused(sentence, want, WidenedBanks::runs, false);
    }

    /** All that can be asked is as it is of the other's objects. */
    void same(String sentence, Made other) {
        for (int group = 0; group < GROUPS; group++) {
            compare(sentence, before.get(group), answers(other.make(), group, true));
        }
    }

    private void refused(String sentence, int want, Call call, boolean withMet) {
        for (int group = 0; group < GROUPS; group++) {
            WidenedBanks x = made.make();
            Due.due(sentence, call.on(x), want);
            String was = withMet ? before.get(group) : answers(made.make(), group, false);
            compare(sentence, was, answers(x, group, withMet));
        }
    }

    private static void compare(String sentence, String was, String is) {
        Due.holds(sentence + ": was" + was + ", is" + is, was.equals(is));
    }

    private static String answers(WidenedBanks x, int group, boolean withMet) {
        StringBuilder out = new StringBuilder();
        if (group >= UNDO) {
            undone(x, group - UNDO, out);
        } else if (group >= UPON) {
            add(out, "upon " + (group - UPON), x.view(10 + group - UPON, 0, 1, 1, 8), x.count(1));
        } else if (group >= BACK) {
            add(out, "back", x.back(group - BACK), x.count(5));
            looks(x, out);
        } else {
            switch (group) {
                case TOLD -> told(x, withMet, out);
                case LOOKS -> looks(x, out);
                case READS -> reads(x, out);
                case LINES -> lines(x, out);
                case PAIRS -> pairs(x, out);
                case WOULD -> would(x, out);
                case TRIES -> tries(x, out);
                case RUNS -> runs(x, out);
                case PLANS -> plans(x, out);
                default -> Due.fail("no such questions: " + group);
            }
        }
        return out.toString();
    }

    private static void add(StringBuilder out, String what, long... answers) {
        out.append(' ').append(what);
        for (long answer : answers) {
            out.append(' ').append(answer);
        }
    }

    private static void told(WidenedBanks x, boolean withMet, StringBuilder out) {
        add(out, "told", x.number(), x.kind());
        for (int what = 0; what <= 5; what++) {
            add(out, "count " + what, x.count(what));
        }
        for (int refusal = 0; refusal <= 6; refusal++) {
            add(out, "mode " + refusal, x.modes(refusal, 0));
            if (withMet) {
                add(out, "met " + refusal, x.met(refusal));
            }
        }
        add(out, "bank", x.bank(8, 1), x.forget(), x.clear());
    }

    private static void looks(WidenedBanks x, StringBuilder out) {
        for (int bank = 0; bank < x.count(0); bank++) {
            for (int place = 0; place < 12; place++) {
                add(out, "looks " + bank + " " + place, x.looks(bank, place), x.number(), x.kind());
            }
        }
    }

    private static void reads(WidenedBanks x, StringBuilder out) {
        for (int view = 0; view < x.count(1); view++) {
            for (int place = 0; place < 12; place++) {
                add(out, "reads " + view + " " + place, x.reads(view, place), x.number(), x.kind());
            }
        }
    }

    private static void lines(WidenedBanks x, StringBuilder out) {
        eachLine(x, out);
        for (int line = 0; line < x.count(2); line++) {
            add(out, "wave " + line, x.wave(line));
        }
        for (int what = 0; what <= 6; what++) {
            add(out, "forecast " + what, x.forecast(what));
        }
        add(out, "reorders", x.reorders());
        eachLine(x, out);
    }

    private static void eachLine(WidenedBanks x, StringBuilder out) {
        for (int line = 0; line < x.count(2); line++) {
            for (int what = 0; what < 5; what++) {
                add(out, "line " + line + " " + what, x.line(line, what));
            }
        }
    }

    private static void pairs(WidenedBanks x, StringBuilder out) {
        for (int a = 0; a < x.count(1); a++) {
            for (int b = 0; b < x.count(1); b++) {
                add(out, "pair " + a + " " + b, x.joins(a, b), x.shares(a, b), x.safe(a, b));
            }
        }
    }

    private static void would(WidenedBanks x, StringBuilder out) {
        for (int view = 0; view < x.count(1); view++) {
            for (int way = 0; way <= 2; way++) {
                for (int kind = 0; kind <= 9; kind++) {
                    add(out, "would " + view + " " + way + " " + kind, x.would(view, way, kind));
                }
            }
        }
    }

    private static void tries(WidenedBanks x, StringBuilder out) {
        add(out, "unseen", x.unseen(0), x.unseen(1));
        add(out, "fewest", x.fewest(0), x.fewest(1));
        add(out, "sees", x.sees(21, 0), x.unseen(1), x.forget(), x.unseen(1));
    }

    private static void runs(WidenedBanks x, StringBuilder out) {
        add(out, "runs", x.runs(), x.count(5));
        looks(x, out);
    }

    private static void plans(WidenedBanks x, StringBuilder out) {
        add(out, "END", x.plans(6, 0, 0, 0, 0), x.count(3));
        add(out, "TURNS", x.plans(5, 1, 0, 0, 0), x.count(3));
        for (int line = 0; line < 18; line++) {
            add(out, "drops", x.drops(), x.count(3));
        }
    }

    private static void undone(WidenedBanks x, int times, StringBuilder out) {
        for (int i = 0; i <= times; i++) {
            add(out, "undo", x.undo());
        }
        looks(x, out);
    }
}
