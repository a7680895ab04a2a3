import java.util.Random;
import java.util.function.ToLongFunction;

/**
 * "What is refused answers as told and changes nothing": random calls go to one object all, to another one only if they
 * were neither refused nor mere questions; both answer alike, now, behind undoing all, and behind going back.
 */
public final class RefusedTest {
    private static final String[] VILLAGES = {"sl60c30;fy9;fy4g8;fy20;w;wa2v1k9;wa1v0k2", "f",
        "f;f;f;f;f;f;wa5v3;wa3v5", "sl9c9;fy3;fy40g0;w;w;w;w;w;w;w;w;w", "sl99c99;fy1;fy2;fy1;fy1", "f;f;wv0", "fy41",
        "f;f;f;f;f;f;f"};
    private static final String[] LAWS = {"y:k*k+n", "y:(b>l|d=3)&!g<2?k;y:9", "y:9999*9999*l/d", "y:k?", "y:12345"};
    private static final String[] SPRINGS = {"f0;n;p05;i0;n;f1", "n;n;n", "p99;f9", "p05;p11;i0;i1", "p1", "n;"};
    private static final int[] EXTREMES = {Integer.MIN_VALUE, Integer.MAX_VALUE, -1000000, -2, 10, 41, 51, 1000};

    private final Random random;
    private final FenceYards all = new FenceYards();
    private final FenceYards taken = new FenceYards();
    private final String name;

    private RefusedTest(int seed) {
        random = new Random(seed);
        name = "seed " + seed;
    }

    public static void main(String[] args) {
        for (int seed = 0; seed < 3000; seed++) {
            new RefusedTest(seed).storm();
        }
        Check.finish();
    }

    private void storm() {
        int calls = 20 + random.nextInt(70);
        for (int i = 0; i < calls; i++) {
            if (random.nextInt(12) == 0 || i == 0) {
                tell();
            } else {
                take(random.nextInt(3) == 0 ? question() : act());
            }
        }
        int end = random.nextInt(3);
        if (end == 1) {
            for (int i = 0; i < 41; i++) {
                Check.due(name + " undone", all.undo(), taken.undo());
            }
        } else if (end == 2) {
            Check.due(name + " back", all.back(), taken.back());
        }
        Observed.dueAlike(name, Observed.of(all), Observed.of(taken));
        Check.due(name + " tape", all.fault(0), taken.fault(0));
    }

    /** Both get the tape; a text that is refused is refused by one alone. */
    private void tell() {
        int sort = random.nextInt(3);
        String[] texts = sort == 0 ? VILLAGES : sort == 1 ? LAWS : SPRINGS;
        String text = texts[random.nextInt(texts.length)];
        Check.tape(all, text);
        Check.tape(taken, text);
        take(x -> x.text(sort));
        if (sort == 1) {
            take(x -> told(x.law(x.count(2) - 1)));
        }
    }

    private void take(ToLongFunction<FenceYards> call) {
        long answer = Unchanged.answer(all, call);
        if (answer != FenceYards.NONE) {
            Check.due(name + " taken", Unchanged.answer(taken, call), answer);
        }
    }

    private static long told(boolean answer) {
        return answer ? 1 : FenceYards.NONE;
    }

    private int any(int most) {
        return random.nextInt(8) == 0 ? EXTREMES[random.nextInt(EXTREMES.length)] : random.nextInt(most + 3) - 1;
    }

    private ToLongFunction<FenceYards> act() {
        int a = any(6);
        int b = any(9);
        int c = any(9);
        int much = any(50);
        long seed = random.nextLong();
        switch (random.nextInt(16)) {
            case 0: return x -> x.forgive(b);
            case 1: return x -> x.paint(a, b);
            case 2: return x -> x.inspect(a);
            case 3: return x -> x.sin(a, b, c);
            case 4: return x -> x.buy(much);
            case 5: return x -> x.give(much);
            case 6: return x -> x.day();
            case 7: return x -> x.years(much, seed);
            case 8: return x -> x.undo();
            case 9: return x -> x.perform(a);
            case 10: return x -> x.seen(a, much, (seed & 1) == 0);
            case 11: return x -> told(x.law(a));
            case 12: return x -> told(x.apples(b));
            case 13: return x -> x.image();
            case 14: return x -> (seed & 3) == 0 ? x.back() : x.forgive(b);
            default: return x -> told((seed & 7) == 0 ? x.end(much) : x.end(300 + a * a));
        }
    }

    /** Answered to the caller as refused, so that only one object is asked. */
    private ToLongFunction<FenceYards> question() {
        ToLongFunction<FenceYards> call = asked();
        return x -> {
            Unchanged.answer(x, call);
            return FenceYards.NONE;
        };
    }

    private ToLongFunction<FenceYards> asked() {
        int a = any(6);
        int b = any(6);
        int c = any(2);
        int d = any(2);
        int what = any(1);
        int much = any(100);
        switch (random.nextInt(24)) {
            case 0: return x -> x.farm(a, b);
            case 1: return x -> x.wrong(a, b);
            case 2: return x -> x.log(much, c);
            case 3: return x -> x.step(a, b, c);
            case 4: return x -> x.run(a, what);
            case 5: return x -> x.least(a, what);
            case 6: return x -> x.every(what);
            case 7: return x -> x.richest(b, what);
            case 8: return x -> x.pairs(what);
            case 9: return x -> x.weights(a, b);
            case 10: return x -> x.ask(a);
            case 11: return x -> x.ring();
            case 12: return x -> x.chain(a, b);
            case 13: return x -> x.score(a, what);
            case 14: return x -> x.game(a, b, c, d, what);
            case 15: return x -> x.rests(a, b, much);
            case 16: return x -> x.odds(a, much);
            case 17: return x -> x.shares(a, much);
            case 18: return x -> x.fades(a);
            case 19: return x -> x.all(much % 16);
            case 20: return x -> x.count(much % 20);
            case 21: return x -> x.fault(b);
            case 22: return x -> x.text(3 + a * a);
            default: return x -> x.feed(-1, -1, -1, -1, -1) == FenceYards.NONE ? 0 : told(x.end(x.count(4) - 20));
        }
    }
}
