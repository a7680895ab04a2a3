import java.util.function.Supplier;
import java.util.function.ToLongFunction;

/** Boundary cases of promises 16 to 19: days, years by draws, acts undone, the log. */
public final class DayBoundsTest {
    private static final int NONE = Check.NONE;
    private static final int LOWEST = Integer.MIN_VALUE;
    private static final int HIGHEST = Integer.MAX_VALUE;
    private static final long[] SEEDS = {0, 1, -1, Long.MIN_VALUE, Long.MAX_VALUE, Long.MIN_VALUE + 1, 1L << 33,
        (1L << 33) - 1, 1L << 32, -(1L << 31), 6364136223846793005L, -1442695040888963407L};

    public static void main(String[] args) {
        firstAndLastDay();
        halfComesThrough();
        halfOfEachFarm();
        brownAtMost9999();
        eachThirdDayWears();
        wearsOnTheLastDay();
        noLessThanNone();
        whiteOrOneYardBare();
        whiteFarmsAsBits();
        coinsForWhiteFarms();
        yearsBounds();
        yearsBeyond999();
        yearsAreActs();
        yearsLimeAtMost999();
        yearsOrder();
        yearsByApples();
        yearsByFarms();
        yearsGoRound();
        undoNone();
        undoOne();
        undoForty();
        undoBackAndForth();
        undoOfTheLastFarm();
        logEmpty();
        logLatest60();
        logRefused();
        logUndone();
        Check.finish();
    }

    private static void onBusy(String name, ToLongFunction<FenceYards> call, long want) {
        Unchanged.due(name, Unchanged::busy, call, want);
    }

    private static Supplier<FenceYards> onDay(int day) {
        return () -> Days.at("f;f", day);
    }

    private static void firstAndLastDay() {
        FenceYards x = Check.village("f");
        Check.due("DAY at first", x.count(6), 0);
        Check.due("a day", x.day(), 0);
        Check.due("DAY then", x.count(6), 1);
        FenceYards late = onDay(998).get();
        Check.due("DAY 998", late.count(6), 998);
        Check.due("the last day", late.day(), 0);
        Check.due("DAY 999", late.count(6), 999);
        Check.due("its log", late.count(13), 60);
        Unchanged.due("a day at 999", onDay(999), y -> y.day(), NONE);
    }

    private static FenceYards painted(String village, int yards) {
        FenceYards x = Check.village(village);
        for (int left = yards; left > 0; left -= 9) {
            x.paint(0, Math.min(left, 9));
        }
        return x;
    }

    private static void halfComesThrough() {
        for (int yards = 0; yards <= 40; yards++) {
            FenceYards x = painted("sl99;fy40", yards);
            Check.due("FALSE", x.farm(0, 3), yards);
            x.day();
            int through = yards - yards / 2;
            Check.due("FALSE of " + yards + " then", x.farm(0, 3), yards / 2);
            Check.due("BARE then", x.farm(0, 4), 40 - yards / 2);
            Check.due("BROWN then", x.count(10), through);
            Check.due("LOG then", x.log(0, 1), through);
            Check.due("LIME as it was", x.count(7), 99 - yards);
        }
    }

    private static void halfOfEachFarm() {
        FenceYards x = Check.village("sl99;f;f;f;f;f;f");
        for (int farm = 0; farm < 6; farm++) {
            x.paint(farm, farm + 1);
        }
        x.day();
        int[] wants = {0, 1, 1, 2, 2, 3};
        for (int farm = 0; farm < 6; farm++) {
            Check.due("FALSE of " + farm, x.farm(farm, 3), wants[farm]);
        }
        Check.due("of each, not of all", x.log(0, 1), 1 + 1 + 2 + 2 + 3 + 3);
    }

    private static void stock(FenceYards x, int lime) {
        while (x.count(7) < lime) {
            x.give(20);
            x.buy(20);
        }
    }

    /** So much lime needs more than 512 calls, behind which answers are free: here they go on as before. */
    private static void brownAtMost9999() {
        FenceYards x = Check.village("sl99c99;fy40;fy40;fy40");
        Check.tell(x, 2, "p09;p09;p09;p09;p19;p19;p19;p19;p29;p29;p29;p29");
        Check.tell(x, 2, "n;n;n;n;n;n");
        for (int i = 0; i < 92; i++) {
            stock(x, 108);
            x.perform(0);
            x.perform(1);
        }
        Check.due("BROWN", x.count(10), 92 * 108);
        stock(x, 100);
        for (int i = 0; i < 6; i++) {
            x.paint(i % 3, 9);
        }
        x.paint(0, 8);
        x.perform(1);
        Check.due("BROWN 9998", x.count(10), 9998);
        x.paint(0, 1);
        x.paint(1, 1);
        x.day();
        Check.due("BROWN at most", x.count(10), 9999);
        Check.due("two came through", x.log(0, 1), 2);
        x.paint(0, 5);
        x.day();
        Check.due("BROWN no more", x.count(10), 9999);
        Check.due("three came through", x.log(0, 1), 3);
        x.undo();
        x.undo();
        Check.due("BROWN undone to its most", x.count(10), 9999);
        x.undo();
        Check.due("BROWN undone", x.count(10), 9998);
    }

    private static void eachThirdDayWears() {
        FenceYards x = Check.village("sl99;fy40g0;f;wa1v0k9");
        Check.due("TRUE", x.forgive(0), 19);
        int left = 19;
        for (int day = 0; day < 60; day++) {
            x.day();
            left -= day % 3 == 2 && left > 0 ? 1 : 0;
            Check.due("TRUE behind day " + day, x.farm(0, 2), left);
        }
        Check.due("none is left", left, 0);
        Check.due("no BROWN", x.count(10), 0);
    }

    /** 998 is 2 modulo 3. */
    private static void wearsOnTheLastDay() {
        FenceYards x = Days.at("f;f", 997);
        x.sin(0, 1, 1);
        Check.due("TRUE", x.forgive(0), 2);
        x.day();
        Check.due("TRUE behind 997", x.farm(1, 2), 2);
        x.day();
        Check.due("TRUE behind 998", x.farm(1, 2), 1);
    }

    private static void noLessThanNone() {
        FenceYards x = Check.village("f;fg6;fg9;wk1;wv2k1");
        Check.due("one yard", x.forgive(0), 1);
        Check.due("no yard", x.forgive(1), 0);
        for (int day = 0; day < 9; day++) {
            x.day();
            Check.due("TRUE of one", x.farm(1, 2), day < 2 ? 1 : 0);
            Check.due("TRUE of none", x.farm(2, 2), 0);
        }
    }

    private static void whiteOrOneYardBare() {
        FenceYards white = Check.village("f;fy6;w");
        white.forgive(0);
        Check.due("nothing bare", white.day(), 1);
        FenceYards bare = Check.village("f;fy7;w");
        bare.forgive(0);
        Check.due("one yard bare", bare.day(), 0);
        bare.paint(1, 1);
        Check.due("WHITE by false white", bare.all(7), 0b10);
        Check.due("that comes through first", bare.day(), 0);
        FenceYards worn = Check.village("f;fy6;w");
        worn.day();
        worn.day();
        worn.forgive(0);
        Check.due("WHITE ahead of day 2", worn.all(7), 0b10);
        Check.due("worn first", worn.day(), 0);
        Check.due("no coin", worn.count(8), 20);
    }

    private static FenceYards white(int farms, String rules) {
        FenceYards x = Check.village(rules + ";fy1;fy1;fy1;fy1;fy1;fy1");
        for (int farm = 0; farm < farms; farm++) {
            x.forgive(x.sin((farm + 1) % 6, farm, 9));
        }
        return x;
    }

    private static void whiteFarmsAsBits() {
        for (int farms = 0; farms <= 6; farms++) {
            FenceYards x = white(farms, "s");
            Check.due("how many are white", x.day(), farms);
            Check.due("these", x.log(0, 0), (1 << farms) - 1);
            Check.due("a coin for each", x.count(8), 20 + farms);
        }
    }

    private static void dueCoins(int coins, int farms, int want) {
        FenceYards x = white(farms, "sc" + (coins - 900));
        for (int i = 0; i < 18; i++) {
            x.give(50);
        }
        Check.due("COINS", x.count(8), coins);
        x.day();
        Check.due(coins + " coins and " + farms, x.count(8), want);
    }

    private static void coinsForWhiteFarms() {
        dueCoins(997, 1, 998);
        dueCoins(998, 0, 998);
        dueCoins(998, 1, 999);
        dueCoins(998, 2, 999);
        dueCoins(999, 0, 999);
        dueCoins(999, 1, 999);
        dueCoins(993, 6, 999);
        dueCoins(994, 6, 999);
        dueCoins(999, 6, 999);
    }

    private static void yearsBounds() {
        onBusy("years(0, 1)", x -> x.years(0, 1), NONE);
        onBusy("years(-1, 1)", x -> x.years(-1, 1), NONE);
        onBusy("years(31, 1)", x -> x.years(31, 1), NONE);
        onBusy("years of the lowest", x -> x.years(LOWEST, 1), NONE);
        onBusy("years of the highest", x -> x.years(HIGHEST, 1), NONE);
        FenceYards x = Check.village("f;f");
        Check.due("years(1, 1)", x.years(1, 1), 1);
        Check.due("years(30, 1)", x.years(30, 1), 31);
        Check.due("LOG", x.count(13), 31);
    }

    /** None of its days goes by then. */
    private static void yearsBeyond999() {
        Unchanged.due("30 at 970", onDay(970), x -> x.years(30, 1), NONE);
        Unchanged.due("2 at 998", onDay(998), x -> x.years(2, 1), NONE);
        Unchanged.due("1 at 999", onDay(999), x -> x.years(1, 1), NONE);
        Check.due("30 at 969", onDay(969).get().years(30, 1), 999);
        Check.due("1 at 998", onDay(998).get().years(1, 1), 999);
        Check.due("29 at 970", onDay(970).get().years(29, 1), 999);
    }

    private static void yearsAreActs() {
        FenceYards x = Check.village("sl10;f;f;w;w");
        x.years(30, 7);
        Check.due("30 acts", x.count(14), 30);
        x.years(10, 7);
        Check.due("40 acts", x.count(14), 40);
        x.years(1, 7);
        Check.due("no more than 40", x.count(14), 40);
        FenceYards y = Check.village("sl10;f;f;w;w");
        y.years(30, 99);
        for (int left = 29; left >= 0; left--) {
            Check.due("a day undone", y.undo(), left);
            Check.due("the DAY", y.count(6), left);
        }
        Observed.dueAlike("all undone", Observed.of(y), Observed.of(Check.village("sl10;f;f;w;w")));
    }

    private static void dueLime(int told, int want) {
        FenceYards x = Days.at("sl" + told + ";f", 300);
        x.years(1, 1);
        Check.due("LIME " + (900 + told) + " and 3", x.count(7), want);
        Check.due("LIME in the LOG", x.log(0, 2), want);
    }

    private static void yearsLimeAtMost999() {
        dueLime(95, 998);
        dueLime(96, 999);
        dueLime(97, 999);
        dueLime(98, 999);
        dueLime(99, 999);
    }

    /** Forgiven ahead of the lime, which comes ahead of the day. */
    private static void yearsOrder() {
        FenceYards x = Check.village("sl0;f;fy40;w;w;w;w;w;w;w;w;w");
        x.apples(0);
        x.years(1, 3);
        Check.due("forgiven", x.count(9), 1);
        Check.due("without lime", x.farm(1, 2), 0);
        Check.due("LIME then", x.count(7), 3);
        Check.due("LIME of the day", x.log(0, 2), 3);
    }

    private static long next(long drawn) {
        return drawn * 6364136223846793005L + 1442695040888963407L;
    }

    private static int drawn(long x, int j) {
        return (int) ((x >>> 33) % j);
    }

    /** The same by acts of their own; lime comes by giving and buying. */
    private static void dueYears(String village, int apples, long seed) {
        FenceYards x = Check.village(village);
        FenceYards y = Check.village(village);
        x.apples(apples);
        Check.due("years", x.years(20, seed), 20);
        int farms = y.count(0);
        long drawn = seed;
        for (int day = 0; day < 20; day++) {
            drawn = next(drawn);
            if (drawn(drawn, 10) < apples) {
                long one = next(drawn);
                long other = next(one);
                drawn = next(other);
                y.sin(drawn(one, farms), drawn(other, farms), drawn(drawn, 9) + 1);
            }
            drawn = next(drawn);
            y.forgive(drawn(drawn, 9));
            y.give(3);
            y.buy(3);
            y.day();
        }
        Observed.dueAlike(village + ", apples " + apples + ", seed " + seed, x, y, 14);
    }

    private static void yearsByApples() {
        for (int apples = 0; apples < 10; apples++) {
            for (long seed : SEEDS) {
                dueYears("f;fy20g0;fy6g9;w;wa2v0k9", apples, seed);
            }
        }
        FenceYards x = Check.village("f;f");
        x.apples(0);
        for (int i = 0; i < 33; i++) {
            x.years(30, SEEDS[i % SEEDS.length] + i);
        }
        Check.due("no apples, no wrong", x.all(9) + x.count(9), 0);
    }

    /** Of one farm nobody sins; in full places nobody can. */
    private static void yearsByFarms() {
        StringBuilder village = new StringBuilder("sl20");
        for (int farms = 1; farms <= 6; farms++) {
            village.append(";fy20");
            for (long seed : SEEDS) {
                dueYears(village.toString(), 9, seed);
            }
        }
        for (long seed : SEEDS) {
            dueYears(village + ";w;wa1v2;wa2v3;wa3v4;wa4v5;wa5v0;w;wa1v3;wa2v4", 9, seed);
        }
        FenceYards one = Check.village("f");
        one.apples(9);
        one.years(30, 5);
        Check.due("none to itself", one.all(9) + one.count(9), 0);
    }

    private static void yearsGoRound() {
        for (int i = 0; i < 64; i++) {
            dueYears("f;f;f;wa2v1", 7, 1L << i);
            dueYears("f;f;f;wa2v1", 7, -1L << i);
        }
    }

    private static void undoNone() {
        Unchanged.due("undo nothing", () -> Check.village("f;f;w"), x -> x.undo(), NONE);
        Unchanged.due("undo behind going back", () -> {
            FenceYards x = Unchanged.busy();
            x.back();
            return x;
        }, x -> x.undo(), NONE);
    }

    private static void undoOne() {
        FenceYards x = Check.village("sc5;f");
        x.give(7);
        Check.due("one act", x.undo(), 0);
        Check.due("COINS", x.count(8), 5);
        Check.due("no more", x.undo(), NONE);
        Check.due("COINS still", x.count(8), 5);
    }

    private static FenceYards given(int acts) {
        FenceYards x = Check.village("sc0;f");
        for (int i = 0; i < acts; i++) {
            x.give(1);
        }
        return x;
    }

    private static void undoForty() {
        for (int acts : new int[] {39, 40, 41, 42, 80, 81, 82, 83, 200}) {
            FenceYards x = given(acts);
            int most = Math.min(acts, 40);
            Check.due("ACTS", x.count(14), most);
            for (int left = most - 1; left >= 0; left--) {
                Check.due("undone", x.undo(), left);
                Check.due("COINS", x.count(8), acts - most + left);
            }
            Check.due("undone no more", x.undo(), NONE);
            Check.due("COINS no less", x.count(8), acts - most);
            Check.due("no ACTS", x.count(14), 0);
        }
    }

    private static void undoBackAndForth() {
        FenceYards x = given(60);
        for (int i = 0; i < 40; i++) {
            x.undo();
        }
        for (int i = 0; i < 45; i++) {
            x.give(2);
        }
        Check.due("ACTS again", x.count(14), 40);
        Check.due("COINS", x.count(8), 20 + 90);
        for (int i = 0; i < 40; i++) {
            x.undo();
        }
        Check.due("COINS undone", x.count(8), 20 + 10);
        Check.due("undone no more", x.undo(), NONE);
    }

    /** All that is told of the sixth farm and of the ninth place comes again. */
    private static void undoOfTheLastFarm() {
        FenceYards x = Check.village("sl99;f;f;f;f;f;fy40;w;w;w;w;w;w;w;wv5;wa5v4k9");
        int[] before = Observed.of(x);
        x.paint(5, 9);
        x.forgive(7);
        x.forgive(8);
        x.sin(5, 0, 2);
        x.sin(4, 5, 6);
        int[] then = Observed.of(x);
        x.day();
        x.inspect(5);
        x.undo();
        x.undo();
        Observed.dueAlike("two undone", Observed.of(x), then);
        for (int i = 0; i < 5; i++) {
            x.undo();
        }
        Observed.dueAlike("all undone", Observed.of(x), before);
    }

    private static void logEmpty() {
        FenceYards x = Check.village("f");
        Check.due("LOG at first", x.count(13), 0);
        for (int what = 0; what < 3; what++) {
            int which = what;
            Unchanged.due("log(0, " + what + ")", () -> Check.village("f"), y -> y.log(0, which), NONE);
        }
        x.day();
        Check.due("LOG of one", x.count(13), 1);
        Check.due("its LIME", x.log(0, 2), 40);
        Check.due("nothing ahead of it", x.log(1, 2), NONE);
    }

    /** Each day a yard is painted that comes through: LIME tells the days apart. */
    private static FenceYards logged(int days) {
        FenceYards x = Check.village("sl99;f");
        for (int i = 0; i < days; i++) {
            x.paint(0, 1);
            x.day();
        }
        return x;
    }

    private static void logLatest60() {
        for (int days : new int[] {59, 60, 61, 62, 99}) {
            FenceYards x = logged(days);
            int most = Math.min(days, 60);
            Check.due("LOG of " + days, x.count(13), most);
            for (int i = 0; i < most; i++) {
                Check.due("LIME of " + i, x.log(i, 2), 99 - days + i);
            }
            Check.due("none ahead of these", x.log(most, 2), NONE);
        }
    }

    private static void logRefused() {
        onBusy("log(-1, 0)", x -> x.log(-1, 0), NONE);
        onBusy("log(1, 1) is there", x -> x.log(1, 1), 3);
        onBusy("log(2, 1)", x -> x.log(2, 1), NONE);
        onBusy("log(0, -1)", x -> x.log(0, -1), NONE);
        onBusy("log(0, 3)", x -> x.log(0, 3), NONE);
        onBusy("log of the lowest", x -> x.log(LOWEST, 0), NONE);
        onBusy("log of the highest", x -> x.log(HIGHEST, 0), NONE);
        onBusy("log(0, lowest)", x -> x.log(0, LOWEST), NONE);
        onBusy("log(0, highest)", x -> x.log(0, HIGHEST), NONE);
    }

    /** What fell out of the log comes again. */
    private static void logUndone() {
        FenceYards x = logged(61);
        Check.due("the 60th", x.log(59, 2), 97);
        x.undo();
        Check.due("LOG behind undoing", x.count(13), 60);
        Check.due("the first came again", x.log(59, 2), 98);
        Check.due("the latest", x.log(0, 2), 39);
        FenceYards y = Days.at("sl0;f", 150);
        for (int i = 0; i < 40; i++) {
            y.undo();
        }
        Check.due("DAY", y.count(6), 110);
        Check.due("LOG", y.count(13), 60);
        for (int i = 0; i < 60; i++) {
            Check.due("LIME of " + i + " behind forty undone", y.log(i, 2), 3 * (110 - i));
        }
        FenceYards few = logged(3);
        few.undo();
        Check.due("LOG of two", few.count(13), 2);
        Check.due("no third", few.log(2, 2), NONE);
    }
}
