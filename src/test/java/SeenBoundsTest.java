import java.util.function.Supplier;
import java.util.function.ToLongFunction;

/** Boundary cases of promises 27 to 29: SEEN, WEIGHTS, ASK. */
public final class SeenBoundsTest {
    private static final int NONE = Check.NONE;
    private static final int LOWEST = Integer.MIN_VALUE;
    private static final int HIGHEST = Integer.MAX_VALUE;

    public static void main(String[] args) {
        seenOfToldWrongs();
        seenOfForgivenOnes();
        seenMarks();
        seenTenAtMost();
        seenNothing();
        moreOrLessAtTheMark();
        weightsFromNineToNone();
        weightsRefused();
        weightsByLimeAsTold();
        weightsByBareAsTold();
        weightsOfDayZero();
        askRefused();
        askNothingFits();
        askAllAlike();
        askLowestMark();
        askHighestMark();
        askOfSeveral();
        asksChangeNothing();
        seenIsNoAct();
        Check.finish();
    }

    private static void refused(String name, ToLongFunction<FenceYards> call) {
        Unchanged.due(name, Unchanged::busy, call, NONE);
    }

    /** A told wrong whose YARDS are how HEAVY it was, but for what the law says. */
    private static FenceYards ruled(String village, String law) {
        FenceYards x = Check.village(village);
        Check.rule(x, law);
        return x;
    }

    private static void dueWeights(FenceYards x, int told, int... wants) {
        Check.due("weights(" + told + ", NONE)", x.weights(told, NONE), wants.length);
        for (int i = 0; i < wants.length; i++) {
            Check.due("weights(" + told + ", " + i + ")", x.weights(told, i), wants[i]);
        }
        Check.due("behind these", x.weights(told, wants.length), NONE);
    }

    private static void seenOfToldWrongs() {
        refused("seen(-1, ..)", x -> x.seen(-1, 1, true));
        refused("seen(4, ..) of four, one done later", x -> x.seen(4, 1, true));
        refused("seen of the lowest", x -> x.seen(LOWEST, 1, true));
        refused("seen of the highest", x -> x.seen(HIGHEST, 1, false));
        FenceYards x = Check.village("f;f;w;w;w;w;w;w;w;w;w");
        Check.due("of the first", x.seen(0, 5, true), 1);
        Check.due("of the ninth", x.seen(8, 5, true), 2);
        Check.due("of a tenth", x.seen(9, 5, true), NONE);
        FenceYards none = Check.village("f;f");
        none.sin(0, 1, 1);
        Check.due("none was told", none.seen(0, 5, true), NONE);
    }

    /** By its number among those told, whatever is in that place now. */
    private static void seenOfForgivenOnes() {
        FenceYards x = ruled("sl99;f;fy40;wk5;wa1v0k6", "y:k");
        x.forgive(0);
        x.sin(1, 0, 9);
        Check.due("of a forgiven one", x.seen(0, 4, true), 1);
        dueWeights(x, 0, 4, 5, 6, 7, 8, 9);
        Check.due("asked of it", x.ask(0), 7);
    }

    private static void seenMarks() {
        refused("seen v -1", x -> x.seen(0, -1, true));
        refused("seen v 41", x -> x.seen(0, 41, true));
        refused("seen less than -1", x -> x.seen(0, -1, false));
        refused("seen less than 41", x -> x.seen(0, 41, false));
        refused("seen v of the lowest", x -> x.seen(0, LOWEST, true));
        refused("seen v of the highest", x -> x.seen(0, HIGHEST, true));
        FenceYards x = Check.village("f;f;w");
        Check.due("v 0", x.seen(0, 0, true), 1);
        Check.due("v 40", x.seen(0, 40, false), 2);
        dueWeights(x, 0, 1, 2, 3, 4, 5, 6, 7, 8, 9);
    }

    private static FenceYards seenTen() {
        FenceYards x = ruled("sl99;f;fy40;w;w", "y:k");
        for (int i = 0; i < 10; i++) {
            Check.due("seen " + (i + 1), x.seen(i % 2, i, true), i + 1);
        }
        return x;
    }

    private static void seenTenAtMost() {
        Unchanged.due("an eleventh", SeenBoundsTest::seenTen, x -> x.seen(0, 1, true), NONE);
        Unchanged.due("an eleventh of another", SeenBoundsTest::seenTen, x -> x.seen(1, 40, true), NONE);
        FenceYards x = seenTen();
        Check.due("SEEN", x.count(12), 10);
        dueWeights(x, 0, 8, 9);
        dueWeights(x, 1, 9);
    }

    private static void seenNothing() {
        FenceYards x = Check.village("f;f;w");
        Check.due("SEEN at first", x.count(12), 0);
        dueWeights(x, 0, 1, 2, 3, 4, 5, 6, 7, 8, 9);
    }

    private static void moreOrLessAtTheMark() {
        FenceYards more = ruled("sl99;f;fy40;w", "y:k");
        more.seen(0, 5, true);
        dueWeights(more, 0, 5, 6, 7, 8, 9);
        FenceYards less = ruled("sl99;f;fy40;w", "y:k");
        less.seen(0, 5, false);
        dueWeights(less, 0, 1, 2, 3, 4);
        more.seen(0, 6, false);
        dueWeights(more, 0, 5);
        less.seen(0, 5, true);
        dueWeights(less, 0);
    }

    private static void weightsFromNineToNone() {
        for (int mark = 0; mark <= 10; mark++) {
            FenceYards x = ruled("sl99;f;fy40;w", "y:k");
            x.seen(0, mark, true);
            Check.due("of " + mark + " or more", x.weights(0, NONE), Math.min(9, 10 - mark));
            FenceYards y = ruled("sl99;f;fy40;w", "y:k");
            y.seen(0, mark, false);
            Check.due("of less than " + mark, y.weights(0, NONE), Math.max(mark - 1, 0));
        }
        FenceYards none = ruled("sl99;f;fy40;w", "y:k");
        none.seen(0, 0, false);
        dueWeights(none, 0);
        FenceYards forty = ruled("sl99;f;fy40;w", "y:k+31");
        forty.seen(0, 40, true);
        dueWeights(forty, 0, 9);
    }

    private static void weightsRefused() {
        refused("weights(-1, NONE)", x -> x.weights(-1, NONE));
        refused("weights(4, NONE)", x -> x.weights(4, NONE));
        refused("weights(2, -2)", x -> x.weights(2, -2));
        refused("weights(2, 9)", x -> x.weights(2, 9));
        refused("weights(2, lowest)", x -> x.weights(2, LOWEST));
        refused("weights(2, highest)", x -> x.weights(2, HIGHEST));
        refused("weights of the lowest", x -> x.weights(LOWEST, 0));
        refused("weights of the highest", x -> x.weights(HIGHEST, 0));
        Unchanged.due("weights(3, 8)", Unchanged::busy, x -> x.weights(3, 8), 9);
        Unchanged.due("weights(3, 0)", Unchanged::busy, x -> x.weights(3, 0), 1);
    }

    private static void weightsByLimeAsTold() {
        FenceYards x = ruled("sl4;f;fy40;w;w", "y:k");
        x.seen(0, 4, true);
        dueWeights(x, 0, 4, 5, 6, 7, 8, 9);
        x.seen(1, 5, true);
        dueWeights(x, 1);
        x.buy(20);
        dueWeights(x, 1);
        x.forgive(0);
        dueWeights(x, 0, 4, 5, 6, 7, 8, 9);
        FenceYards dry = ruled("sl0;f;fy40;w", "y:k");
        dry.seen(0, 1, false);
        dueWeights(dry, 0, 1, 2, 3, 4, 5, 6, 7, 8, 9);
    }

    private static void weightsByBareAsTold() {
        FenceYards x = ruled("sl99;f;fy4;w", "y:k");
        x.seen(0, 4, true);
        x.paint(1, 4);
        dueWeights(x, 0, 4, 5, 6, 7, 8, 9);
        x.seen(0, 5, true);
        dueWeights(x, 0);
    }

    private static void weightsOfDayZero() {
        FenceYards x = ruled("sl99;f;fy40;w;w", "y:k+d*9+n*9");
        x.day();
        x.forgive(1);
        x.seen(0, 9, true);
        dueWeights(x, 0, 9);
    }

    private static void askRefused() {
        refused("ask(-1)", x -> x.ask(-1));
        refused("ask(4)", x -> x.ask(4));
        refused("ask of the lowest", x -> x.ask(LOWEST));
        refused("ask of the highest", x -> x.ask(HIGHEST));
        FenceYards x = ruled("sl99;f;fy40;w;w;w;w;w;w;w;w;w", "y:k");
        Check.due("ask of the ninth", x.ask(8), 5);
        Check.due("ask of a tenth", x.ask(9), NONE);
    }

    private static void askNothingFits() {
        Supplier<FenceYards> made = () -> {
            FenceYards x = ruled("sl99;f;fy40;w;w", "y:k");
            x.seen(0, 0, false);
            return x;
        };
        Unchanged.due("nothing fits", made, x -> x.ask(0), NONE);
        Check.due("of the other one", made.get().ask(1), 5);
    }

    private static void askAllAlike() {
        Check.due("all paint 7", ruled("sl99;f;fy40;w", "y:7").ask(0), 0);
        Check.due("all paint none", ruled("sl99;f;fy40;w", "y:0").ask(0), 0);
        FenceYards one = ruled("sl99;f;fy40;w", "y:k");
        one.seen(0, 9, true);
        Check.due("one fits", one.ask(0), 0);
    }

    private static void askLowestMark() {
        Check.due("four of nine paint 0", ruled("sl99;f;fy40;w", "y:k>4?5").ask(0), 1);
        Check.due("one of nine paints 0", ruled("sl99;f;fy40;w", "y:k>1?5").ask(0), 1);
        Check.due("eight of nine paint 0", ruled("sl99;f;fy40;w", "y:k>8?5").ask(0), 1);
    }

    private static void askHighestMark() {
        Check.due("39 or 40", ruled("sl99;f;fy40;w", "y:k>4?40;y:39").ask(0), 40);
        Check.due("38 or 39", ruled("sl99;f;fy40;w", "y:k>4?39;y:38").ask(0), 39);
        Check.due("39 or more than 40", ruled("sl99;f;fy40;w", "y:k>4?99;y:39").ask(0), 40);
    }

    private static void askOfSeveral() {
        FenceYards x = ruled("sl99;f;fy40;w", "y:k>4?20;y:10");
        Check.due("the least of 11 to 20", x.ask(0), 11);
        FenceYards three = ruled("sl99;f;fy40;w", "y:k*3");
        three.seen(0, 10, false);
        dueWeights(three, 0, 1, 2, 3);
        Check.due("of three: one and two, or two and one", three.ask(0), 4);
        three.seen(0, 4, true);
        dueWeights(three, 0, 2, 3);
        Check.due("of two", three.ask(0), 7);
    }

    private static void asksChangeNothing() {
        for (int told = 0; told < 4; told++) {
            int which = told;
            long ask = Unchanged.busy().ask(told);
            long weights = Unchanged.busy().weights(told, NONE);
            Unchanged.due("ask(" + told + ")", Unchanged::busy, x -> x.ask(which), ask);
            Unchanged.due("weights(" + told + ", NONE)", Unchanged::busy, x -> x.weights(which, NONE), weights);
        }
    }

    private static void seenIsNoAct() {
        FenceYards x = Check.village("f;f;w");
        x.give(5);
        x.seen(0, 5, true);
        Check.due("one act", x.count(14), 1);
        Check.due("it is undone", x.undo(), 0);
        Check.due("SEEN stays", x.count(12), 1);
    }
}
