import java.util.NoSuchElementException;
import java.util.Random;

/** Random calls with any arguments: nothing but what is promised is thrown, and what is refused changes nothing. */
public final class StormTest {
    private static final String[] TEXTS = {"sl60c30;fy9;fy4g8;fy20;w;wa2v1k9;wa1v0k2", "f;f;f;f;f;f;wa5v3;wa3v5",
        "f", "fy40;fy40g0;w;w;w;w;w;w;w;w;w", "f;f;wx", "y:k*k+n", "y:(b>l|d=3)&!g<2?k;y:9", "y:9999*9999*l/d", "y:k?",
        "f0;n;p05;i0;n;f1", "n;n;n;n;n;n;n;n;n;n;n;n;n;n;n;n", "p99;f9", "p1"};
    private static final int[] EXTREMES = {Integer.MIN_VALUE, Integer.MAX_VALUE, -1000000, -2, -1, 999, 1000, 41, 240};

    private final Random random;
    private final FenceYards x = new FenceYards();

    private StormTest(int seed) {
        random = new Random(seed);
    }

    public static void main(String[] args) {
        for (int seed = 0; seed < 600; seed++) {
            StormTest storm = new StormTest(seed);
            for (int i = 0; i < 500; i++) {
                storm.call(i);
            }
            int[] first = Observed.of(storm.x);
            StormTest again = new StormTest(seed);
            for (int i = 0; i < 500; i++) {
                again.call(i);
            }
            Observed.dueAlike("the same calls, the same answers", Observed.of(again.x), first);
        }
        Check.finish();
    }

    private int any(int most) {
        return random.nextInt(12) == 0 ? EXTREMES[random.nextInt(EXTREMES.length)] : random.nextInt(most + 2) - 1;
    }

    private void call(int i) {
        int which = random.nextInt(40);
        int[] before = i % 5 == 0 ? Observed.of(x) : null;
        long refusal = FenceYards.NONE;
        long answer;
        if (which < 4) {
            if (random.nextInt(3) > 0) {
                Check.tape(x, TEXTS[random.nextInt(TEXTS.length)]);
            } else {
                x.feed(random.nextInt(), any(127), any(127), random.nextInt(), 0);
                x.end(any(240));
            }
            before = before == null ? null : Observed.of(x);
            answer = x.text(any(2));
        } else if (which < 18) {
            answer = act(which);
        } else {
            answer = asked(which);
            refusal = answer;
        }
        if (before != null && answer == refusal) {
            Observed.dueAlike("refused or asked " + which, Observed.of(x), before);
        }
    }

    private int act(int which) {
        switch (which) {
            case 4: return x.forgive(any(8));
            case 5: return x.paint(any(5), any(9));
            case 6: return x.inspect(any(5));
            case 7: return x.sin(any(5), any(5), any(9));
            case 8: return x.buy(any(20));
            case 9: return x.give(any(50));
            case 10: return x.day();
            case 11: return x.years(any(30), random.nextLong());
            case 12: return x.undo();
            case 13: return x.perform(any(3));
            case 14: return x.seen(any(8), any(40), random.nextBoolean());
            case 15: return random.nextInt(4) == 0 ? x.back() : x.undo();
            case 16: return x.law(any(3)) ? 0 : FenceYards.NONE;
            default: return x.apples(any(9)) ? 0 : FenceYards.NONE;
        }
    }

    private int asked(int which) {
        switch (which) {
            case 18: return x.fault(any(2));
            case 19: return farm();
            case 20: return x.wrong(any(8), any(3));
            case 21: return x.log(any(60), any(2));
            case 22: return x.step(any(3), any(16), any(2));
            case 23: return x.run(any(3), any(1));
            case 24: return x.least(any(5), any(1));
            case 25: return x.every(any(1));
            case 26: return x.richest(any(9), any(1));
            case 27: return x.pairs(any(1));
            case 28: return x.weights(any(8), any(9));
            case 29: return x.ask(any(8));
            case 30: return x.ring();
            case 31: return x.chain(any(5), any(5));
            case 32: return x.score(any(5), any(1));
            case 33: return x.game(any(5), any(5), any(2), any(2), any(1));
            case 34: return x.rests(any(5), any(5), any(8));
            case 35: return x.odds(any(5), any(100));
            case 36: return x.shares(any(5), any(999));
            case 37: return x.fades(any(5));
            case 38: return x.all(any(12));
            default: return random.nextInt(5) == 0 ? x.image() : x.count(any(14));
        }
    }

    private int farm() {
        try {
            return x.farm(any(5), any(5));
        } catch (NoSuchElementException e) {
            return FenceYards.NONE;
        }
    }
}
