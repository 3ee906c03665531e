import java.util.Random;

/** Any arguments in any state: no call throws, and each answer lies where the document's answers lie. */
public final class AnyArgumentsTest {
    private static final int[] EDGES = {Integer.MIN_VALUE, Integer.MIN_VALUE + 1, Integer.MIN_VALUE + 10, -1000, -21, -20, -4, -3, -2, -1, 0, 1, 2, 3, 4,
        5, 6, 7, 8, 9, 10, 11, 12, 13, 14, 15, 16, 17, 18, 20, 21, 25, 26, 31, 32, 63, 64, 72, 1000, Integer.MAX_VALUE - 10, Integer.MAX_VALUE};
    private static final long[] NUMBERS = {Long.MIN_VALUE, Long.MAX_VALUE, 0, 1, -1, 1L << 60, -(1L << 60), (1L << 60) + 1, 9, 127, 65535};

    public static void main(String[] args) {
        for (int seed = 0; seed < 300; seed++) {
            Random dice = new Random(seed);
            WidenedBanks x = new WidenedBanks();
            for (int i = 0; i < 2000; i++) {
                one(x, dice);
            }
        }
        Due.end();
    }

    private static int any(Random dice) {
        return dice.nextInt(3) > 0 ? dice.nextInt(6) : EDGES[dice.nextInt(EDGES.length)];
    }

    private static void one(WidenedBanks x, Random dice) {
        int a = any(dice), b = any(dice), c = any(dice), d = any(dice), e = any(dice);
        int which = dice.nextInt(31);
        if (which == 2 && dice.nextInt(20) > 0) {
            which = 0;
        }
        Due.holds("call " + which + " of " + a + ", " + b + ", " + c + ", " + d + ", " + e, within(answer(x, which, a, b, c, d, e, dice)));
    }

    private static boolean within(long answer) {
        return answer >= -11 && answer <= 8191 || answer == WidenedBanks.NONE;
    }

    private static long answer(WidenedBanks x, int which, int a, int b, int c, int d, int e, Random dice) {
        switch (which) {
            case 0: return x.bank(a, b);
            case 1: return x.view(dice.nextBoolean() ? a : a + 10, b, c, d, e);
            case 2: return x.clear();
            case 3: return x.reads(a, b);
            case 4: return x.looks(a, b);
            case 5: return Math.abs(x.number()) <= 1L << 60 ? 0 : -100;
            case 6: return x.kind();
            case 7: return x.writes(a, b, c, d, NUMBERS[dice.nextInt(NUMBERS.length)]);
            case 8: return x.does(a, b, c, d, e);
            case 9: return x.copies(a, b, c);
            case 10: return x.undo();
            case 11: return x.plans(a, b, c, d, e);
            case 12: return x.drops();
            case 13: return x.modes(a, b);
            case 14: return x.runs();
            case 15: return x.line(a, b);
            case 16: return x.met(a);
            case 17: return x.forecast(a);
            case 18: return x.wave(a);
            case 19: return x.reorders();
            case 20: return x.joins(a, b);
            case 21: return x.would(a, b, c);
            case 22: return x.shares(a, b);
            case 23: return x.safe(a, b);
            case 24: return x.sees(a, b);
            case 25: return x.forget();
            case 26: return x.unseen(a);
            case 27: return x.fewest(a);
            case 28: return x.keep(a);
            case 29: return x.back(a);
            default: return x.count(a);
        }
    }
}
