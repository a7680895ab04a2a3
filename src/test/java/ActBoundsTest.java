import java.util.function.Supplier;
import java.util.function.ToLongFunction;

/** Boundary cases of promises 6, 7 and 9 to 15: farms, wrongs, apples, and acts but days. */
public final class ActBoundsTest {
    private static final int NONE = Check.NONE;
    private static final int LOWEST = Integer.MIN_VALUE;
    private static final int HIGHEST = Integer.MAX_VALUE;

    public static void main(String[] args) {
        farmNumbers();
        farmWhats();
        farmAtFirst();
        ninePlaces();
        wrongWhats();
        placeWithNone();
        applesBounds();
        forgivePlaces();
        forgiveNoneAlso();
        forgiveCountsOn();
        forgivenInAllAtMost999();
        paintFarms();
        paintYards();
        paintByLime();
        paintByBare();
        inspectFarms();
        inspectWithoutFalse();
        inspectCoins();
        sinFarms();
        sinHeavy();
        sinLowestPlace();
        sinNoPlace();
        buyBounds();
        buyByCoins();
        buyUpTo999();
        giveBounds();
        giveUpTo999();
        eachActIsUndone();
        Check.finish();
    }

    private static void onBusy(String name, ToLongFunction<FenceYards> call, long want) {
        Unchanged.due(name, Unchanged::busy, call, want);
    }

    private static void refused(String name, ToLongFunction<FenceYards> call) {
        onBusy(name, call, NONE);
    }

    private static void farmNumbers() {
        onBusy("farm(0, 0)", x -> x.farm(0, 0), 12);
        onBusy("farm(2, 0)", x -> x.farm(2, 0), 40);
        onBusy("farm(3, 0)", x -> x.farm(3, 0), Unchanged.THROWN);
        onBusy("farm(-1, 0)", x -> x.farm(-1, 0), Unchanged.THROWN);
        onBusy("farm of the lowest", x -> x.farm(LOWEST, 0), Unchanged.THROWN);
        onBusy("farm of the highest", x -> x.farm(HIGHEST, 0), Unchanged.THROWN);
        FenceYards six = Check.village("f;f;f;f;f;fy7");
        Check.due("farm(5, 0) of six", six.farm(5, 0), 7);
        Check.dueNoFarm(six, 6, 0);
        FenceYards one = Check.village("fy7");
        Check.due("farm(0, 0) of one", one.farm(0, 0), 7);
        Check.dueNoFarm(one, 1, 0);
    }

    private static void farmWhats() {
        onBusy("farm(0, -1)", x -> x.farm(0, -1), Unchanged.THROWN);
        onBusy("farm(0, 6)", x -> x.farm(0, 6), Unchanged.THROWN);
        onBusy("farm(0, lowest)", x -> x.farm(0, LOWEST), Unchanged.THROWN);
        onBusy("farm(0, highest)", x -> x.farm(0, HIGHEST), Unchanged.THROWN);
        onBusy("farm(2, 5)", x -> x.farm(2, 5), 1);
        onBusy("farm(3, 6)", x -> x.farm(3, 6), Unchanged.THROWN);
    }

    private static void farmAtFirst() {
        FenceYards x = Check.village("f;fy40g9;w");
        int[] wants = {40, 9, 0, 0, 40, 0};
        for (int what = 0; what < 6; what++) {
            Check.due("farm(1, " + what + ") at first", x.farm(1, what), wants[what]);
        }
    }

    private static void ninePlaces() {
        FenceYards x = Check.village("f;f;wk1;wk2;wk3;wk4;wk5;wk6;wk7;wk8;wk9");
        for (int place = 0; place < 9; place++) {
            Check.due("wrong(" + place + ", 2)", x.wrong(place, 2), place + 1);
        }
        Check.due("wrong(9, 2)", x.wrong(9, 2), NONE);
        Check.due("wrong(-1, 2)", x.wrong(-1, 2), NONE);
        refused("wrong(9, 0)", y -> y.wrong(9, 0));
        refused("wrong(-1, 0)", y -> y.wrong(-1, 0));
        refused("wrong of the lowest", y -> y.wrong(LOWEST, 0));
        refused("wrong of the highest", y -> y.wrong(HIGHEST, 0));
    }

    private static void wrongWhats() {
        onBusy("wrong(0, 0)", x -> x.wrong(0, 0), 0);
        onBusy("wrong(3, 1)", x -> x.wrong(3, 1), 2);
        onBusy("wrong(3, 3)", x -> x.wrong(3, 3), 6);
        refused("wrong(0, -1)", x -> x.wrong(0, -1));
        refused("wrong(0, 4)", x -> x.wrong(0, 4));
        refused("wrong(0, lowest)", x -> x.wrong(0, LOWEST));
        refused("wrong(0, highest)", x -> x.wrong(0, HIGHEST));
    }

    private static void placeWithNone() {
        FenceYards x = Check.village("f;f;w;w");
        Check.due("behind the told ones", x.wrong(2, 0), NONE);
        Check.due("the last place", x.wrong(8, 3), NONE);
        x.forgive(0);
        for (int what = 0; what < 4; what++) {
            Check.due("a forgiven one, " + what, x.wrong(0, what), NONE);
        }
        Check.due("the other one is open", x.wrong(1, 0), 0);
    }

    private static int told(boolean answer) {
        return answer ? 1 : 0;
    }

    private static void applesBounds() {
        onBusy("apples(-1)", x -> told(x.apples(-1)), 0);
        onBusy("apples(10)", x -> told(x.apples(10)), 0);
        onBusy("apples(6) is so", x -> told(x.apples(6)), 0);
        onBusy("apples of the lowest", x -> told(x.apples(LOWEST)), 0);
        onBusy("apples of the highest", x -> told(x.apples(HIGHEST)), 0);
        Unchanged.due("apples(4) at first", FenceYards::new, x -> told(x.apples(4)), 0);
        FenceYards x = new FenceYards();
        for (int v : new int[] {0, 9, 5, 4, 0}) {
            Check.due("apples(" + v + ")", x.apples(v), true);
            Check.due("APPLES", x.count(11), v);
            Check.due("apples(" + v + ") is so", x.apples(v), false);
        }
    }

    private static void forgivePlaces() {
        refused("forgive(-1)", x -> x.forgive(-1));
        refused("forgive(9)", x -> x.forgive(9));
        refused("forgive(8), none there", x -> x.forgive(8));
        refused("forgive of the lowest", x -> x.forgive(LOWEST));
        refused("forgive of the highest", x -> x.forgive(HIGHEST));
        Unchanged.due("forgiven already", () -> {
            FenceYards x = Unchanged.busy();
            x.forgive(0);
            return x;
        }, x -> x.forgive(0), NONE);
        FenceYards x = Check.village("sl99;f;fy40g0;wk1;w;w;w;w;w;w;w;wk9");
        Check.due("the first place", x.forgive(0), 3);
        Check.due("the last place", x.forgive(8), 19);
        Check.due("TRUE", x.farm(1, 2), 22);
        Check.due("LIME", x.count(7), 77);
    }

    private static void forgiveNoneAlso() {
        FenceYards grudging = Check.village("f;fg9;wk1");
        Check.due("worth nothing", grudging.forgive(0), 0);
        FenceYards dry = Check.village("sl0;f;f;w");
        Check.due("no lime", dry.forgive(0), 0);
        FenceYards white = Check.village("f;fy1;w;w");
        white.forgive(0);
        Check.due("nothing bare", white.forgive(1), 0);
        for (FenceYards x : new FenceYards[] {grudging, dry, white}) {
            Check.due("an act all the same", x.undo() != NONE, true);
            Check.due("open again", x.all(9) != 0, true);
        }
    }

    private static void forgiveCountsOn() {
        FenceYards x = Check.village("sl99;f;f;fy40;w;w;wa1v2");
        x.forgive(0);
        x.forgive(1);
        x.forgive(2);
        Check.dueRow("forgiven of each", new int[] {x.farm(0, 5), x.farm(1, 5), x.farm(2, 5)}, 2, 1, 0);
        Check.due("FORGIVEN in all", x.count(9), 3);
    }

    /** By years, then nine at once by a spring: within 512 calls. */
    private static FenceYards forgiven(int inAll) {
        FenceYards x = Check.village("f;f;f;f;f;f");
        x.apples(9);
        Check.tell(x, 2, "f0;f1;f2;f3;f4;f5;f6;f7;f8");
        for (int i = 0; i < 33; i++) {
            x.years(30, i);
        }
        int open = x.all(9);
        for (int place = 0; place < 9; place++) {
            if ((open >> place & 1) == 1) {
                x.forgive(place);
            }
        }
        int missing = inAll - x.count(9);
        while (missing > 0) {
            int some = Math.min(missing, 9);
            for (int i = 0; i < some; i++) {
                x.sin(i % 6, (i + 1) % 6, 1);
            }
            x.perform(0);
            missing -= some;
        }
        return x;
    }

    private static void forgivenInAllAtMost999() {
        FenceYards x = forgiven(998);
        Check.due("998", x.count(9), 998);
        x.sin(0, 1, 1);
        x.sin(0, 1, 1);
        int before = x.farm(0, 5);
        Check.due("forgiven", x.forgive(0) != NONE, true);
        Check.due("999", x.count(9), 999);
        Check.due("forgiven once more", x.forgive(1) != NONE, true);
        Check.due("999 at most", x.count(9), 999);
        Check.due("of the farm two more", x.farm(0, 5), before + 2);
        x.undo();
        Check.due("999 still", x.count(9), 999);
        x.undo();
        Check.due("998 again", x.count(9), 998);
        Check.due("of the farm as before", x.farm(0, 5), before);
    }

    private static void paintFarms() {
        refused("paint(-1, 1)", x -> x.paint(-1, 1));
        refused("paint(3, 1)", x -> x.paint(3, 1));
        refused("paint of the lowest", x -> x.paint(LOWEST, 1));
        refused("paint of the highest", x -> x.paint(HIGHEST, 1));
        FenceYards six = Check.village("f;f;f;f;f;f");
        Check.due("the first farm", six.paint(0, 1), 1);
        Check.due("the last farm", six.paint(5, 1), 1);
        Check.due("behind it", six.paint(6, 1), NONE);
        Check.due("FALSE of these alone", six.all(8), 0b100001);
    }

    private static void paintYards() {
        refused("paint(0, 0)", x -> x.paint(0, 0));
        refused("paint(0, -1)", x -> x.paint(0, -1));
        refused("paint(2, 10)", x -> x.paint(2, 10));
        refused("paint(0, lowest)", x -> x.paint(0, LOWEST));
        refused("paint(0, highest)", x -> x.paint(0, HIGHEST));
        FenceYards x = Check.village("fy40");
        Check.due("paint(0, 1)", x.paint(0, 1), 1);
        Check.due("paint(0, 9)", x.paint(0, 9), 10);
        Check.due("LIME", x.count(7), 30);
        Check.due("COINS", x.count(8), 20);
    }

    private static Supplier<FenceYards> of(String village) {
        return () -> Check.village(village);
    }

    private static void paintByLime() {
        Unchanged.due("6 with 5 of lime", of("sl5;f"), x -> x.paint(0, 6), NONE);
        Unchanged.due("1 with no lime", of("sl0;f"), x -> x.paint(0, 1), NONE);
        FenceYards x = Check.village("sl5;f");
        Check.due("5 with 5 of lime", x.paint(0, 5), 5);
        Check.due("no lime then", x.count(7), 0);
        Check.due("1 then", x.paint(0, 1), NONE);
    }

    private static void paintByBare() {
        Unchanged.due("6 of 5 yards", of("fy5"), x -> x.paint(0, 6), NONE);
        FenceYards x = Check.village("fy5;f;wa1v0k1");
        Check.due("5 of 5 yards", x.paint(0, 5), 5);
        Check.due("1 of none", x.paint(0, 1), NONE);
        x.undo();
        Check.due("2 of true white", x.forgive(0), 2);
        Check.due("4 of 3 yards", x.paint(0, 4), NONE);
        Check.due("3 of 3 yards", x.paint(0, 3), 3);
        Check.due("nothing is bare", x.farm(0, 4), 0);
    }

    private static void inspectFarms() {
        refused("inspect(-1)", x -> x.inspect(-1));
        refused("inspect(3)", x -> x.inspect(3));
        refused("inspect of the lowest", x -> x.inspect(LOWEST));
        refused("inspect of the highest", x -> x.inspect(HIGHEST));
        FenceYards six = Check.village("f;f;f;f;f;f");
        six.paint(5, 2);
        Check.due("the last farm", six.inspect(5), 2);
        Check.due("behind it", six.inspect(6), NONE);
    }

    private static void inspectWithoutFalse() {
        refused("inspect(1) without false white", x -> x.inspect(1));
        FenceYards x = Check.village("f;f;wa1v0");
        x.forgive(0);
        Check.due("true white alone", x.inspect(0), NONE);
        x.paint(0, 1);
        Check.due("one yard of false white", x.inspect(0), 1);
        Check.due("it is gone", x.farm(0, 3), 0);
        Check.due("true white stays", x.farm(0, 2), 6);
        Check.due("once more", x.inspect(0), NONE);
    }

    private static void dueCoins(int coins, int yards, int want) {
        FenceYards x = Check.village("sc" + coins + ";fy40");
        x.paint(0, yards);
        Check.due("yards", x.inspect(0), yards);
        Check.due(coins + " coins less by " + yards, x.count(8), want);
    }

    private static void inspectCoins() {
        dueCoins(5, 4, 1);
        dueCoins(5, 5, 0);
        dueCoins(5, 6, 0);
        dueCoins(0, 1, 0);
        dueCoins(99, 9, 90);
    }

    private static void sinFarms() {
        refused("sin(-1, 0, 1)", x -> x.sin(-1, 0, 1));
        refused("sin(0, -1, 1)", x -> x.sin(0, -1, 1));
        refused("sin(3, 0, 1)", x -> x.sin(3, 0, 1));
        refused("sin(0, 3, 1)", x -> x.sin(0, 3, 1));
        refused("sin(0, 0, 1)", x -> x.sin(0, 0, 1));
        refused("sin(2, 2, 1)", x -> x.sin(2, 2, 1));
        refused("sin(3, 3, 1)", x -> x.sin(3, 3, 1));
        refused("sin of the extremes", x -> x.sin(LOWEST, HIGHEST, 1));
        FenceYards six = Check.village("f;f;f;f;f;f");
        Check.due("the first to the last", six.sin(0, 5, 1), 0);
        Check.due("the last to the first", six.sin(5, 0, 1), 1);
        Check.due("to one behind", six.sin(0, 6, 1), NONE);
        FenceYards one = Check.village("f");
        Check.due("of one to itself", one.sin(0, 0, 1), NONE);
        Check.due("with nobody else", one.sin(0, 1, 1), NONE);
    }

    private static void sinHeavy() {
        refused("sin(0, 1, 0)", x -> x.sin(0, 1, 0));
        refused("sin(0, 1, 10)", x -> x.sin(0, 1, 10));
        refused("sin(0, 1, -1)", x -> x.sin(0, 1, -1));
        refused("sin(0, 1, lowest)", x -> x.sin(0, 1, LOWEST));
        refused("sin(0, 1, highest)", x -> x.sin(0, 1, HIGHEST));
        FenceYards x = Check.village("f;f");
        Check.due("sin(0, 1, 1)", x.sin(0, 1, 1), 0);
        Check.due("sin(0, 1, 9)", x.sin(0, 1, 9), 1);
        Check.due("how heavy", 10 * x.wrong(0, 2) + x.wrong(1, 2), 19);
    }

    private static void sinLowestPlace() {
        FenceYards x = Check.village("f;f;f;w;w;w;w;w;w;w;w;w");
        x.forgive(8);
        Check.due("the last place", x.sin(2, 0, 4), 8);
        x.forgive(6);
        x.forgive(0);
        x.forgive(3);
        Check.due("the lowest of three", x.sin(2, 1, 5), 0);
        Check.due("of two", x.sin(2, 1, 6), 3);
        Check.due("the third", x.sin(2, 1, 7), 6);
        Check.due("none", x.sin(2, 1, 8), NONE);
        Check.dueRow("in place 3", new int[] {x.wrong(3, 0), x.wrong(3, 1), x.wrong(3, 2)}, 2, 1, 6);
    }

    private static void sinNoPlace() {
        Unchanged.due("no place", of("f;f;w;w;w;w;w;w;w;w;w"), x -> x.sin(0, 1, 1), NONE);
        FenceYards x = Check.village("f;f");
        for (int place = 0; place < 9; place++) {
            Check.due("place " + place, x.sin(place % 2, 1 - place % 2, place + 1), place);
        }
        Check.due("a tenth", x.sin(0, 1, 1), NONE);
        Check.due("nine acts", x.count(14), 9);
        Check.due("all are open", x.all(9), 511);
    }

    private static void buyBounds() {
        refused("buy(0)", x -> x.buy(0));
        refused("buy(-1)", x -> x.buy(-1));
        refused("buy(21)", x -> x.buy(21));
        refused("buy of the lowest", x -> x.buy(LOWEST));
        refused("buy of the highest", x -> x.buy(HIGHEST));
        FenceYards x = Check.village("sl0c99;f");
        Check.due("21 with 99 coins", x.buy(21), NONE);
        Check.due("buy(1)", x.buy(1), 1);
        Check.due("buy(20)", x.buy(20), 21);
        Check.due("COINS", x.count(8), 78);
    }

    private static void buyByCoins() {
        Unchanged.due("6 with 5 coins", of("sc5;f"), x -> x.buy(6), NONE);
        Unchanged.due("1 with no coins", of("sc0;f"), x -> x.buy(1), NONE);
        FenceYards x = Check.village("sc5;f");
        Check.due("5 with 5 coins", x.buy(5), 45);
        Check.due("no coins then", x.count(8), 0);
        Check.due("1 then", x.buy(1), NONE);
    }

    /** LIME is 900 more then. */
    private static Supplier<FenceYards> onDay300(String village) {
        return () -> Days.at(village, 300);
    }

    private static void buyUpTo999() {
        Unchanged.due("20 above 979", onDay300("sl80c50;f"), x -> x.buy(20), NONE);
        Unchanged.due("1 above 999", onDay300("sl99c50;f"), x -> x.buy(1), NONE);
        FenceYards x = onDay300("sl79c50;f").get();
        Check.due("LIME 979", x.count(7), 979);
        Check.due("20 with 979", x.buy(20), 999);
        Check.due("1 with 999", x.buy(1), NONE);
        FenceYards y = onDay300("sl98c50;f").get();
        Check.due("2 with 998", y.buy(2), NONE);
        Check.due("1 with 998", y.buy(1), 999);
        Check.due("COINS", y.count(8), 49);
    }

    private static void giveBounds() {
        refused("give(0)", x -> x.give(0));
        refused("give(-1)", x -> x.give(-1));
        refused("give(51)", x -> x.give(51));
        refused("give of the lowest", x -> x.give(LOWEST));
        refused("give of the highest", x -> x.give(HIGHEST));
        FenceYards x = Check.village("sc0;f");
        Check.due("give(1)", x.give(1), 1);
        Check.due("give(50)", x.give(50), 51);
        Check.due("LIME stays", x.count(7), 40);
    }

    /** COINS are 900 more then. */
    private static Supplier<FenceYards> given(String village) {
        return () -> {
            FenceYards x = Check.village(village);
            for (int i = 0; i < 18; i++) {
                x.give(50);
            }
            return x;
        };
    }

    private static void giveUpTo999() {
        Unchanged.due("50 above 949", given("sc50;f"), x -> x.give(50), NONE);
        Unchanged.due("2 above 997", given("sc98;f"), x -> x.give(2), NONE);
        Unchanged.due("1 above 999", given("sc99;f"), x -> x.give(1), NONE);
        Check.due("50 with 949", given("sc49;f").get().give(50), 999);
        Check.due("1 with 998", given("sc98;f").get().give(1), 999);
    }

    /** Undone at once, with no call between. */
    private static void eachActIsUndone() {
        undone("forgive", x -> x.forgive(2));
        undone("paint", x -> x.paint(0, 9));
        undone("inspect", x -> x.inspect(2));
        undone("sin", x -> x.sin(0, 1, 9));
        undone("buy", x -> x.buy(20));
        undone("give", x -> x.give(50));
        undone("day", x -> x.day());
        undone("years", x -> x.years(1, 5));
        undone("perform", x -> x.perform(1));
    }

    private static void undone(String name, ToLongFunction<FenceYards> act) {
        int acts = Unchanged.busy().count(14);
        onBusy(name + " undone", x -> {
            Check.due(name + " is an act", act.applyAsLong(x) != NONE, true);
            Check.due(name + " can be undone", x.count(14), acts + 1);
            return x.undo();
        }, acts);
        FenceYards x = Unchanged.busy();
        act.applyAsLong(x);
        act.applyAsLong(x);
        x.undo();
        FenceYards y = Unchanged.busy();
        act.applyAsLong(y);
        if (x.count(14) == y.count(14)) {
            Observed.dueAlike(name + " twice, once undone", Observed.of(x), Observed.of(y));
        }
    }
}
