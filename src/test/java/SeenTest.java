/** Promises 27 to 29: SEEN, WEIGHTS, ASK. */
public final class SeenTest {
    private static final int NONE = Check.NONE;

    public static void main(String[] args) {
        seeing();
        weights();
        asTold();
        asking();
        askingByTrial();
        Check.finish();
    }

    private static void seeing() {
        FenceYards x = new FenceYards();
        Check.due("seen without a village", x.seen(0, 1, true), NONE);
        Check.tell(x, 0, "f;f;w;w");
        Check.due("seen(2, ..)", x.seen(2, 1, true), NONE);
        Check.due("seen(-1, ..)", x.seen(-1, 1, true), NONE);
        Check.due("seen v 41", x.seen(0, 41, true), NONE);
        Check.due("seen v -1", x.seen(0, -1, true), NONE);
        x.sin(0, 1, 3);
        Check.due("a wrong done later was not told", x.seen(2, 1, true), NONE);
        for (int i = 1; i <= 10; i++) {
            Check.due("seen " + i, x.seen(i % 2, i == 1 ? 0 : 40, i == 1), i);
        }
        Check.due("an eleventh", x.seen(0, 1, true), NONE);
        Check.due("SEEN", x.count(12), 10);
    }

    private static void dueWeights(FenceYards x, int told, int... wants) {
        Check.due("weights(" + told + ", NONE)", x.weights(told, NONE), wants.length);
        for (int i = 0; i < wants.length; i++) {
            Check.due("weights(" + told + ", " + i + ")", x.weights(told, i), wants[i]);
        }
        Check.due("weights behind them", x.weights(told, wants.length), NONE);
        Check.due("weights(" + told + ", -2)", x.weights(told, -2), NONE);
    }

    private static void weights() {
        FenceYards x = Check.village("sl99;fy40g0;fy12g6;w;wa1v0k9");
        dueWeights(x, 0, 1, 2, 3, 4, 5, 6, 7, 8, 9);
        Check.due("weights(2, NONE)", x.weights(2, NONE), NONE);
        Check.due("weights(-1, NONE)", x.weights(-1, NONE), NONE);
        x.seen(0, 5, true);
        dueWeights(x, 0, 3, 4, 5, 6, 7, 8, 9);
        x.seen(0, 12, false);
        dueWeights(x, 0, 3, 4, 5, 6);
        dueWeights(x, 1, 1, 2, 3, 4, 5, 6, 7, 8, 9);
        x.seen(0, 11, false);
        x.seen(1, 19, true);
        dueWeights(x, 0, 3, 4, 5);
        dueWeights(x, 1, 9);
        x.seen(1, 19, false);
        dueWeights(x, 1);
        Check.rule(x, "y:46-k*k");
        dueWeights(x, 0, 6);
        Check.rule(x, "y:k/4*2+9");
        dueWeights(x, 0, 1, 2, 3);
    }

    /** What was done since the village was told does not count. */
    private static void asTold() {
        FenceYards x = Check.village("sl30;fy20g0;f;wa1v0k9;wa1v0k1");
        Check.rule(x, "y:k+n*10+d*5+l/10-b/10");
        x.seen(0, 8, true);
        dueWeights(x, 0, 7, 8, 9);
        x.forgive(1);
        x.paint(0, 9);
        x.day();
        x.buy(20);
        dueWeights(x, 0, 7, 8, 9);
        x.forgive(0);
        x.sin(0, 1, 2);
        dueWeights(x, 0, 7, 8, 9);
    }

    private static void asking() {
        FenceYards x = Check.village("sl99;fy40g0;fy12g0;w;wa1v0k9");
        Check.due("ask(2)", x.ask(2), NONE);
        Check.due("ask(-1)", x.ask(-1), NONE);
        Check.due("of nine the fifth", x.ask(1), 10);
        x.seen(1, 10, true);
        Check.due("of five the third", x.ask(1), 14);
        x.seen(1, 14, false);
        Check.due("of two the second", x.ask(1), 12);
        x.seen(1, 12, true);
        Check.due("of one", x.ask(1), 0);
        x.seen(1, 12, false);
        Check.due("nothing fits", x.ask(1), NONE);
        FenceYards heavy = Check.village("sl99;fy40g0;f;wa1v0");
        heavy.seen(0, 17, true);
        Check.due("of the two heaviest", heavy.ask(0), 18);
        Check.rule(heavy, "y:k>4?40;y:39");
        Check.due("the highest mark", heavy.ask(0), 40);
        Check.due("of nine, five alike", x.ask(0), 10);
        Check.rule(x, "y:5");
        Check.due("all alike", x.ask(0), 0);
        Check.rule(x, "y:k>4?1");
        Check.due("five and four", x.ask(0), 1);
        Check.due("ask changes nothing", x.count(12), 4);
    }

    private static void askingByTrial() {
        for (int mark = 0; mark <= 40; mark++) {
            FenceYards x = Check.village("sl99;fy40g5;fy11;wa1v0;w");
            x.seen(0, mark, false);
            int best = x.ask(0);
            int leastApart = 99;
            int leastMark = NONE;
            for (int v = 0; v <= 40 && x.weights(0, NONE) > 0; v++) {
                int apart = Math.abs(weightsWith(mark, v, true) - weightsWith(mark, v, false));
                if (apart < leastApart) {
                    leastApart = apart;
                    leastMark = v;
                }
            }
            Check.due("ask behind less than " + mark, best, leastMark);
        }
    }

    private static int weightsWith(int mark, int v, boolean more) {
        FenceYards x = Check.village("sl99;fy40g5;fy11;wa1v0;w");
        x.seen(0, mark, false);
        x.seen(0, v, more);
        return x.weights(0, NONE);
    }
}
