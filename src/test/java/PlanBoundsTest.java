import java.util.function.Supplier;
import java.util.function.ToLongFunction;

/** Boundary cases of promises 23 to 26: LEAST, ALL, MOST, PAIRS. */
public final class PlanBoundsTest {
    private static final int NONE = Check.NONE;
    private static final int LOWEST = Integer.MIN_VALUE;
    private static final int HIGHEST = Integer.MAX_VALUE;
    private static final String NINE = ";wa1v0;wa1v0;wa1v0;wa1v0;wa1v0;wa1v0;wa1v0;wa1v0;wa1v0";

    public static void main(String[] args) {
        leastRefused();
        leastWhiteAlready();
        leastByNone();
        leastByNine();
        leastByLime();
        leastOfSeveral();
        leastByNumbers();
        everyRefused();
        everyWhiteAlready();
        everyByNone();
        everyByNine();
        everyOfSixFarms();
        everyByLime();
        richestRefused();
        richestOfNone();
        richestOfEachNumber();
        richestFewest();
        richestLeast();
        richestByLime();
        pairsRefused();
        pairsOfNone();
        pairsOfOneFarm();
        pairsOfSixFarms();
        pairsFirstAndLastPlace();
        pairsOnePainter();
        pairsLeastRow();
        pairsAsNow();
        plansOneBehindTheOther();
        plansChangeNothing();
        Check.finish();
    }

    private static void refused(String name, ToLongFunction<FenceYards> call) {
        Unchanged.due(name, Unchanged::busy, call, NONE);
    }

    private static FenceYards ruled(String village, String law) {
        FenceYards x = Check.village(village);
        Check.rule(x, law);
        return x;
    }

    private static void dueLeast(FenceYards x, int farm, int bits, int size) {
        Check.due("least(" + farm + ", 0)", x.least(farm, 0), bits);
        Check.due("least(" + farm + ", 1)", x.least(farm, 1), size);
    }

    private static void dueEvery(FenceYards x, int bits, int size) {
        Check.due("every(0)", x.every(0), bits);
        Check.due("every(1)", x.every(1), size);
    }

    private static void dueRichest(FenceYards x, int n, int bits, int yards) {
        Check.due("richest(" + n + ", 0)", x.richest(n, 0), bits);
        Check.due("richest(" + n + ", 1)", x.richest(n, 1), yards);
    }

    private static void duePairs(FenceYards x, int row, int yards) {
        Check.due("pairs(0)", x.pairs(0), row);
        Check.due("pairs(1)", x.pairs(1), yards);
    }

    private static void leastRefused() {
        refused("least(-1, 0)", x -> x.least(-1, 0));
        refused("least(3, 0)", x -> x.least(3, 0));
        refused("least(1, -1)", x -> x.least(1, -1));
        refused("least(1, 2)", x -> x.least(1, 2));
        refused("least of the lowest", x -> x.least(LOWEST, 0));
        refused("least of the highest", x -> x.least(HIGHEST, 0));
        refused("least(1, lowest)", x -> x.least(1, LOWEST));
        refused("least(1, highest)", x -> x.least(1, HIGHEST));
        FenceYards six = ruled("f;f;f;f;f;fy1;wa0v5", "y:1");
        dueLeast(six, 5, 1, 1);
        dueLeast(six, 6, NONE, NONE);
    }

    private static void leastWhiteAlready() {
        FenceYards byFalse = Check.village("fy2;f;wa1v0");
        byFalse.paint(0, 2);
        dueLeast(byFalse, 0, 0, 0);
        FenceYards byTrue = Check.village("fy2;f;wa1v0;wa1v0");
        byTrue.forgive(0);
        dueLeast(byTrue, 0, 0, 0);
        FenceYards bare = Check.village("fy2;f;wa1v0");
        bare.paint(0, 1);
        dueLeast(bare, 0, 1, 1);
    }

    private static void leastByNone() {
        dueLeast(Check.village("f"), 0, NONE, NONE);
        dueLeast(Check.village("fy1;f;w"), 0, NONE, NONE);
        dueLeast(ruled("fy10;f" + NINE, "y:0"), 0, NONE, NONE);
    }

    private static void leastByNine() {
        dueLeast(ruled("fy9;f" + NINE, "y:1"), 0, 511, 9);
        dueLeast(ruled("fy10;f" + NINE, "y:1"), 0, NONE, NONE);
        dueLeast(ruled("fy8;f" + NINE, "y:1"), 0, 255, 8);
        dueLeast(ruled("fy1;f" + NINE, "y:1"), 0, 1, 1);
        FenceYards last = ruled("fy1;f;w;w;w;w;w;w;w;w;wa1v0", "y:1");
        dueLeast(last, 0, 256, 1);
    }

    private static void leastByLime() {
        dueLeast(ruled("sl9;fy9;f" + NINE, "y:1"), 0, 511, 9);
        dueLeast(ruled("sl8;fy9;f" + NINE, "y:1"), 0, NONE, NONE);
        dueLeast(ruled("sl0;fy1;f" + NINE, "y:1"), 0, NONE, NONE);
    }

    private static void leastOfSeveral() {
        dueLeast(ruled("fy2;f" + NINE, "y:1"), 0, 3, 2);
        FenceYards x = ruled("fy5;f;wa1v0k1;wa1v0k4;wa1v0k2;wa1v0k3", "y:k");
        dueLeast(x, 0, 0b0011, 2);
        FenceYards y = ruled("fy5;f;wa1v0k1;wa1v0k4;wa1v0k2;wa1v0k5", "y:k");
        dueLeast(y, 0, 0b1000, 1);
        FenceYards crossed = ruled("fy5;f;wa1v0k1;wa1v0k2;wa1v0k3;wa1v0k4", "y:k");
        dueLeast(crossed, 0, 0b0110, 2);
    }

    /** One behind the other: the second one of the same is worth more. */
    private static void leastByNumbers() {
        FenceYards x = ruled("sl99;fy12;f;f;wa1v0;wa2v0;wa1v0;wa2v0", "y:n*10+2");
        dueLeast(x, 0, 0b0101, 2);
        FenceYards falling = ruled("sl99;fy20;f;wa1v0k9;wa1v0k3", "y:b=20&k=3?1;y:b=20&k=9?11;y:k=3?9;y:1");
        dueLeast(falling, 0, 0b11, 2);
        FenceYards turned = ruled("sl99;fy20;f;wa1v0k3;wa1v0k9", "y:b=20&k=3?1;y:b=20&k=9?11;y:k=3?9;y:1");
        dueLeast(turned, 0, NONE, NONE);
    }

    private static void everyRefused() {
        refused("every(-1)", x -> x.every(-1));
        refused("every(2)", x -> x.every(2));
        refused("every of the lowest", x -> x.every(LOWEST));
        refused("every of the highest", x -> x.every(HIGHEST));
        FenceYards x = Check.village("fy1;fy1;w;wa1v0");
        dueEvery(x, 3, 2);
        Check.due("every(-1) where there is an answer", x.every(-1), NONE);
        Check.due("every(2) where there is an answer", x.every(2), NONE);
    }

    private static void everyWhiteAlready() {
        FenceYards x = Check.village("fy1;fy2;w;wa1v0");
        x.paint(0, 1);
        x.paint(1, 2);
        dueEvery(x, 0, 0);
        FenceYards one = Check.village("fy1");
        one.paint(0, 1);
        dueEvery(one, 0, 0);
    }

    private static void everyByNone() {
        dueEvery(Check.village("f"), NONE, NONE);
        dueEvery(Check.village("fy1;fy1;w"), NONE, NONE);
        dueEvery(Check.village("fy1;fy1;w;wa1v0"), 3, 2);
        FenceYards x = Check.village("fy1;fy1;w");
        x.paint(0, 1);
        dueEvery(x, 1, 1);
    }

    private static void everyByNine() {
        String wrongs = ";wa1v0;wa1v0;wa1v0;wa1v0;w;w;w;w;w";
        dueEvery(ruled("fy4;fy5" + wrongs, "y:1"), 511, 9);
        dueEvery(ruled("fy4;fy6" + wrongs, "y:1"), NONE, NONE);
        dueEvery(ruled("fy5;fy5" + wrongs, "y:1"), NONE, NONE);
        dueEvery(ruled("fy4;fy4" + wrongs, "y:1"), 255, 8);
    }

    private static void everyOfSixFarms() {
        FenceYards x = ruled("fy1;fy1;fy1;fy1;fy1;fy1;w;w;wa1v0;wa1v2;wa2v3;wa3v4;wa4v5;wa5v4", "y:1");
        dueEvery(x, 0b01111101, 6);
        x.forgive(6);
        dueEvery(x, 0b00111101, 5);
    }

    private static void everyByLime() {
        dueEvery(ruled("sl2;fy1;fy1;w;wa1v0", "y:1"), 3, 2);
        dueEvery(ruled("sl1;fy1;fy1;w;wa1v0", "y:1"), NONE, NONE);
    }

    private static void richestRefused() {
        refused("richest(-1, 0)", x -> x.richest(-1, 0));
        refused("richest(10, 0)", x -> x.richest(10, 0));
        refused("richest(1, -1)", x -> x.richest(1, -1));
        refused("richest(1, 2)", x -> x.richest(1, 2));
        refused("richest of the lowest", x -> x.richest(LOWEST, 0));
        refused("richest of the highest", x -> x.richest(HIGHEST, 0));
        refused("richest(1, lowest)", x -> x.richest(1, LOWEST));
        refused("richest(1, highest)", x -> x.richest(1, HIGHEST));
    }

    private static void richestOfNone() {
        dueRichest(Check.village("f"), 9, 0, 0);
        dueRichest(Check.village("f;f;w"), 0, 0, 0);
        dueRichest(Check.village("sl0;f;f;w"), 9, 0, 0);
    }

    private static void richestOfEachNumber() {
        FenceYards x = ruled("fy9;f" + NINE, "y:1");
        for (int n = 0; n <= 9; n++) {
            dueRichest(x, n, (1 << n) - 1, n);
        }
        FenceYards rising = ruled("sl99;fy40;f;wa1v0k1;wa1v0k2;wa1v0k3;wa1v0k4;wa1v0k5;wa1v0k6;wa1v0k7;wa1v0k8;wa1v0k4",
            "y:k");
        dueRichest(rising, 1, 0b010000000, 8);
        dueRichest(rising, 2, 0b011000000, 15);
        dueRichest(rising, 5, 0b011111000, 30);
        dueRichest(rising, 8, 0b111111110, 39);
        dueRichest(rising, 9, 0b111111111, 40);
    }

    private static void richestFewest() {
        FenceYards x = ruled("sl99;fy5;f;wa1v0k2;wa1v0k3;wa1v0k5", "y:k");
        dueRichest(x, 3, 0b100, 5);
        FenceYards nothing = ruled("sl99;f;f;w;w", "y:0");
        dueRichest(nothing, 9, 0, 0);
    }

    private static void richestLeast() {
        FenceYards x = ruled("sl99;fy40;f;wa1v0k1;wa1v0k4;wa1v0k2;wa1v0k3", "y:k");
        dueRichest(x, 2, 0b1010, 7);
        FenceYards same = ruled("sl99;fy40;f;wa1v0k2;wa1v0k2;wa1v0k2", "y:k");
        dueRichest(same, 1, 0b001, 2);
        dueRichest(same, 2, 0b011, 4);
        FenceYards crossed = ruled("sl99;fy5;f;wa1v0k1;wa1v0k2;wa1v0k3;wa1v0k4", "y:k");
        dueRichest(crossed, 2, 0b0110, 5);
    }

    private static void richestByLime() {
        dueRichest(ruled("sl3;fy9;f" + NINE, "y:1"), 9, 7, 3);
        dueRichest(ruled("sl9;fy9;f" + NINE, "y:1"), 9, 511, 9);
    }

    private static void pairsRefused() {
        refused("pairs(-1)", x -> x.pairs(-1));
        refused("pairs(2)", x -> x.pairs(2));
        refused("pairs of the lowest", x -> x.pairs(LOWEST));
        refused("pairs of the highest", x -> x.pairs(HIGHEST));
    }

    private static void pairsOfNone() {
        int row = 0;
        StringBuilder village = new StringBuilder("s");
        for (int farms = 1; farms <= 6; farms++) {
            village.append(";f");
            row = 10 * row + 9;
            duePairs(Check.village(village.toString()), row, 0);
        }
    }

    private static void pairsOfOneFarm() {
        FenceYards x = Check.village("f");
        x.paint(0, 5);
        duePairs(x, 9, 0);
    }

    private static void pairsOfSixFarms() {
        FenceYards x = ruled("f;f;f;f;f;f;w;wa1v2;wa2v3;wa3v4;wa4v5;wa5v0;w;wa1v2;wa2v3", "y:2");
        duePairs(x, 501234, 12);
        FenceYards y = ruled("f;f;f;f;f;f;w;wa1v2;wa2v3;wa3v4;wa4v5;wa5v0;w;wa1v2;wa2v3k9", "y:k");
        duePairs(y, 501834, 24);
    }

    private static void pairsFirstAndLastPlace() {
        FenceYards x = Check.village("f;f;wa1v0;w;w;w;w;w;w;w;wk9");
        x.forgive(0);
        duePairs(x, 98, 10);
        FenceYards y = Check.village("f;f;wa1v0;w");
        duePairs(y, 1, 12);
        FenceYards z = Check.village("f;f;wa1v0");
        duePairs(z, 9, 6);
        FenceYards lead = Check.village("f;f;w");
        duePairs(lead, 90, 6);
    }

    private static void pairsOnePainter() {
        FenceYards x = ruled("f;f;f;w;wv2k4", "y:k");
        duePairs(x, 991, 4);
        FenceYards y = ruled("f;f;f;wk4;wv2k4", "y:k");
        duePairs(y, 909, 4);
        FenceYards z = ruled("f;f;f;wk4;wv2k4;wa1v2k1", "y:k");
        duePairs(z, 902, 5);
    }

    /** A wrong in a place is less than 9, none, even when it is worth nothing. */
    private static void pairsLeastRow() {
        duePairs(ruled("f;f;w;w", "y:0"), 90, 0);
        duePairs(ruled("f;f;wa1v0;w;w", "y:5"), 1, 10);
        duePairs(ruled("f;f;f;wa2v1;wa2v0", "y:5"), 199, 5);
        duePairs(ruled("f;f;f;wa2v0;wa2v1", "y:5"), 99, 5);
    }

    /** Each as it is now: lime and bare yards are not shared out. */
    private static void pairsAsNow() {
        duePairs(ruled("sl5;f;f;w;wa1v0", "y:5"), 10, 10);
        FenceYards x = ruled("f;f;f;wv2;wa1v2", "y:n*5+1");
        x.forgive(0);
        duePairs(x, 991, 1);
        x.sin(0, 2, 1);
        duePairs(x, 990, 6);
    }

    /** An answer is none of the one ahead of it. */
    private static void plansOneBehindTheOther() {
        FenceYards x = ruled("sl9;fy2;fy3;f;wa1v0k2;wk3;wk1", "y:k");
        dueLeast(x, 0, 1, 1);
        dueLeast(x, 2, NONE, NONE);
        dueLeast(x, 1, 0b10, 1);
        dueEvery(x, NONE, NONE);
        dueRichest(x, 9, 0b11, 5);
        dueRichest(x, 1, 0b10, 3);
        dueRichest(x, 0, 0, 0);
        duePairs(x, 19, 5);
        x.forgive(0);
        x.forgive(1);
        duePairs(x, 929, 0);
        dueRichest(x, 9, 0, 0);
        x.paint(2, 4);
        dueEvery(x, NONE, NONE);
        dueLeast(x, 0, 0, 0);
    }

    private static void plansChangeNothing() {
        Supplier<FenceYards> made = Unchanged::busy;
        for (int what = 0; what < 2; what++) {
            int which = what;
            for (int farm = 0; farm < 3; farm++) {
                int at = farm;
                asked("least", made, x -> x.least(at, which));
            }
            asked("every", made, x -> x.every(which));
            asked("richest", made, x -> x.richest(9, which));
            asked("pairs", made, x -> x.pairs(which));
        }
    }

    private static void asked(String name, Supplier<FenceYards> made, ToLongFunction<FenceYards> call) {
        Unchanged.due(name, made, call, call.applyAsLong(made.get()));
    }
}
