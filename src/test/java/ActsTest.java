/** Promises 6, 7 and 9 to 19: what farms and wrongs are, acts, days, years, undoing, the log. */
public final class ActsTest {
    private static final int NONE = Check.NONE;

    public static void main(String[] args) {
        farmsAndWrongs();
        apples();
        forgiving();
        painting();
        inspecting();
        sinning();
        buyingAndGiving();
        aDay();
        trueWhiteWears();
        lastDay();
        caps();
        years();
        yearsRefused();
        undoing();
        undoingFortyOnly();
        theLog();
        Check.finish();
    }

    private static void farmsAndWrongs() {
        FenceYards x = Check.village("fy12g5;f;wa1v0k7");
        int[] first = {12, 5, 0, 0, 12, 0};
        for (int what = 0; what < 6; what++) {
            Check.due("farm(0, " + what + ")", x.farm(0, what), first[what]);
        }
        x.forgive(0);
        Check.due("nothing is bare", x.paint(0, 1), NONE);
        int[] then = {12, 5, 12, 0, 0, 0};
        for (int what = 0; what < 6; what++) {
            Check.due("farm(0, " + what + ") then", x.farm(0, what), then[what]);
        }
        Check.due("farm(1, 5) then", x.farm(1, 5), 1);
        Check.dueNoFarm(x, 2, 0);
        Check.dueNoFarm(x, -1, 0);
        Check.dueNoFarm(x, 0, 6);
        Check.dueNoFarm(x, 0, -1);
        Check.dueNoFarm(x, Integer.MAX_VALUE, Integer.MIN_VALUE);
        FenceYards y = Check.village("f;f;w;wa1v0k9");
        int[] wants = {1, 0, 9, 10};
        for (int what = 0; what < 4; what++) {
            Check.due("wrong(1, " + what + ")", y.wrong(1, what), wants[what]);
        }
        Check.due("wrong(1, 4)", y.wrong(1, 4), NONE);
        Check.due("wrong(1, -1)", y.wrong(1, -1), NONE);
        Check.due("wrong(-1, 0)", y.wrong(-1, 0), NONE);
        Check.due("wrong(9, 0)", y.wrong(9, 0), NONE);
        Check.due("wrong(2, 0)", y.wrong(2, 0), NONE);
    }

    private static void apples() {
        FenceYards x = new FenceYards();
        Check.due("apples(4) is so", x.apples(4), false);
        Check.due("apples(9)", x.apples(9), true);
        Check.due("apples(10)", x.apples(10), false);
        Check.due("apples(-1)", x.apples(-1), false);
        Check.due("APPLES", x.count(11), 9);
        Check.due("apples(0)", x.apples(0), true);
        Check.due("APPLES 0", x.count(11), 0);
    }

    private static void forgiving() {
        FenceYards x = Check.village("sl12;fy20g9;fy5;wa1v0k4;wk9;wa1v0k9;wa1v0k9");
        Check.due("forgive(-1)", x.forgive(-1), NONE);
        Check.due("forgive(9)", x.forgive(9), NONE);
        Check.due("forgive(4)", x.forgive(4), NONE);
        Check.due("no act yet", x.count(14), 0);
        Check.due("forgive(0)", x.forgive(0), 6);
        Check.due("TRUE of 0", x.farm(0, 2), 6);
        Check.due("LIME", x.count(7), 6);
        Check.due("forgiven of 1", x.farm(1, 5), 1);
        Check.due("forgiven of 0", x.farm(0, 5), 0);
        Check.due("the place has none", x.wrong(0, 0), NONE);
        Check.due("forgive(0) again", x.forgive(0), NONE);
        Check.due("no more than is bare", x.forgive(1), 5);
        Check.due("no more than lime", x.forgive(2), 1);
        Check.due("none also", x.forgive(3), 0);
        Check.due("FORGIVEN in all", x.count(9), 4);
        Check.due("acts", x.count(14), 4);
        Check.due("LIME 0", x.count(7), 0);
        Check.due("COINS stay", x.count(8), 20);
    }

    private static void painting() {
        FenceYards x = Check.village("sl15;fy12;fy40");
        Check.due("paint(2, 1)", x.paint(2, 1), NONE);
        Check.due("paint(-1, 1)", x.paint(-1, 1), NONE);
        Check.due("paint(0, 0)", x.paint(0, 0), NONE);
        Check.due("paint(0, 10)", x.paint(0, 10), NONE);
        Check.due("paint(0, 9)", x.paint(0, 9), 9);
        Check.due("too little bare", x.paint(0, 4), NONE);
        Check.due("just bare", x.paint(0, 3), 12);
        Check.due("LIME", x.count(7), 3);
        Check.due("too little lime", x.paint(1, 4), NONE);
        Check.due("just lime", x.paint(1, 3), 3);
        Check.due("acts", x.count(14), 3);
        Check.due("FALSE", x.farm(0, 3), 12);
        Check.due("TRUE", x.farm(0, 2), 0);
        Check.due("BARE", x.farm(0, 4), 0);
    }

    private static void inspecting() {
        FenceYards x = Check.village("sl60c12;fy20;f");
        Check.due("no false white", x.inspect(0), NONE);
        Check.due("inspect(2)", x.inspect(2), NONE);
        Check.due("inspect(-1)", x.inspect(-1), NONE);
        x.paint(0, 7);
        Check.due("inspect(0)", x.inspect(0), 7);
        Check.due("COINS", x.count(8), 5);
        Check.due("FALSE", x.farm(0, 3), 0);
        Check.due("LIME stays spent", x.count(7), 53);
        x.paint(0, 9);
        Check.due("inspect(0) beyond coins", x.inspect(0), 9);
        Check.due("COINS 0", x.count(8), 0);
        Check.due("inspect(0) again", x.inspect(0), NONE);
        Check.due("acts", x.count(14), 4);
        Check.due("BROWN", x.count(10), 0);
    }

    private static void sinning() {
        FenceYards x = Check.village("f;f;f;w;wa2v0");
        Check.due("sin(0, 3, 1)", x.sin(0, 3, 1), NONE);
        Check.due("sin(3, 0, 1)", x.sin(3, 0, 1), NONE);
        Check.due("sin(-1, 0, 1)", x.sin(-1, 0, 1), NONE);
        Check.due("sin(1, 1, 1)", x.sin(1, 1, 1), NONE);
        Check.due("sin(0, 1, 0)", x.sin(0, 1, 0), NONE);
        Check.due("sin(0, 1, 10)", x.sin(0, 1, 10), NONE);
        Check.due("the next place", x.sin(2, 1, 9), 2);
        x.forgive(0);
        Check.due("the lowest place", x.sin(1, 2, 4), 0);
        Check.due("who", x.wrong(0, 0), 1);
        Check.due("to whom", x.wrong(0, 1), 2);
        Check.due("how heavy", x.wrong(0, 2), 4);
        for (int place = 3; place < 9; place++) {
            Check.due("place " + place, x.sin(0, 1, 1), place);
        }
        Check.due("no place", x.sin(0, 1, 1), NONE);
        Check.due("told stay", x.count(1), 2);
        Check.due("acts", x.count(14), 9);
    }

    private static void buyingAndGiving() {
        FenceYards x = Check.village("sl99c30;f");
        Check.due("buy(0)", x.buy(0), NONE);
        Check.due("buy(21)", x.buy(21), NONE);
        Check.due("buy(-5)", x.buy(-5), NONE);
        Check.due("give(1)", x.give(1), 31);
        Check.due("buy(1)", x.buy(1), 100);
        x.undo();
        x.undo();
        Check.due("buy(20)", x.buy(20), 119);
        Check.due("too few coins", x.buy(11), NONE);
        Check.due("just coins", x.buy(10), 129);
        Check.due("COINS", x.count(8), 0);
        Check.due("give(0)", x.give(0), NONE);
        Check.due("give(51)", x.give(51), NONE);
        Check.due("give(-1)", x.give(-1), NONE);
        for (int i = 1; i <= 19; i++) {
            Check.due("give(50)", x.give(50), 50 * i);
        }
        Check.due("give above 999", x.give(50), NONE);
        Check.due("give up to 999", x.give(49), 999);
        Check.due("give beyond", x.give(1), NONE);
        for (int i = 1; i <= 43; i++) {
            x.buy(20);
            x.give(20);
        }
        Check.due("LIME 989", x.count(7), 989);
        Check.due("buy above 999", x.buy(11), NONE);
        Check.due("buy up to 999", x.buy(10), 999);
        Check.due("buy beyond", x.buy(1), NONE);
    }

    private static void aDay() {
        FenceYards x = Check.village("sl60c5;fy7;fy9;fy2;wa1v0k3");
        x.forgive(0);
        x.paint(0, 1);
        x.paint(1, 9);
        x.paint(2, 1);
        Check.due("half, cut upwards, comes through", x.day(), 0);
        Check.due("FALSE of 0", x.farm(0, 3), 0);
        Check.due("FALSE of 1", x.farm(1, 3), 4);
        Check.due("FALSE of 2", x.farm(2, 3), 0);
        Check.due("BARE of 1", x.farm(1, 4), 5);
        Check.due("BROWN", x.count(10), 7);
        Check.due("COINS as they were", x.count(8), 5);
        Check.due("DAY", x.count(6), 1);
        Check.due("LOG what came through", x.log(0, 1), 7);
        Check.due("LOG LIME", x.log(0, 2), 43);
        x.sin(1, 0, 9);
        x.forgive(0);
        Check.due("one is white", x.day(), 1);
        Check.due("a coin for it", x.count(8), 6);
        Check.due("LOG WHITE", x.log(0, 0), 1);
        Check.due("BROWN more", x.count(10), 9);
    }

    private static void trueWhiteWears() {
        FenceYards x = Check.village("fy7;f;f;wa1v0k9;wa2v1k1");
        x.forgive(0);
        x.forgive(1);
        int[] trues = {7, 7, 6, 6, 6, 5, 5, 5, 4};
        int[] seconds = {2, 2, 1, 1, 1, 0, 0, 0, 0};
        for (int day = 0; day < trues.length; day++) {
            Check.due("WHITE on day " + day, x.day(), day < 2 ? 1 : 0);
            Check.due("TRUE behind day " + day, x.farm(0, 2), trues[day]);
            Check.due("TRUE of 1 behind day " + day, x.farm(1, 2), seconds[day]);
        }
        Check.due("COINS", x.count(8), 22);
        Check.due("BROWN", x.count(10), 0);
    }

    private static FenceYards atDay(String text, int day) {
        FenceYards x = Check.village(text);
        x.apples(0);
        while (x.count(6) + 30 <= day) {
            x.years(30, 1);
        }
        if (x.count(6) < day) {
            x.years(day - x.count(6), 1);
        }
        return x;
    }

    private static void lastDay() {
        FenceYards x = atDay("f;f", 998);
        Check.due("a day at 998", x.day(), 0);
        Check.due("DAY 999", x.count(6), 999);
        Check.due("none goes by then", x.day(), NONE);
        Check.due("no year", x.years(1, 1), NONE);
        Check.due("DAY still", x.count(6), 999);
        Check.tell(x, 2, "p03;n;n");
        Check.due("RUN stops there", x.run(0, 0), 1);
        Check.due("DO stops there", x.perform(0), 1);
        Check.due("FADES goes on behind", x.fades(0), 2);
        x.undo();
        x.undo();
        Check.due("undone", x.count(6), 998);
        Check.due("DAY again", x.day(), 0);
    }

    private static void caps() {
        FenceYards x = atDay("sl99;fy9;fy9", 0);
        for (int i = 0; i < 19; i++) {
            x.give(50);
        }
        x.give(28);
        x.paint(0, 9);
        x.sin(0, 1, 9);
        x.forgive(0);
        Check.due("COINS 998", x.count(8), 998);
        Check.due("one is white on the day", x.day(), 1);
        Check.due("COINS 999", x.count(8), 999);
        x.inspect(0);
        x.give(3);
        Check.due("COINS 998 again", x.count(8), 998);
        x.paint(0, 9);
        x.day();
        Check.due("COINS at most 999", x.count(8), 999);
        FenceYards y = atDay("f", 330);
        Check.due("LIME by years at most 999", y.count(7), 999);
        FenceYards z = Check.village("f;f");
        z.apples(9);
        for (int i = 0; i < 33; i++) {
            z.years(30, i);
        }
        int forgiven = z.count(9);
        for (int i = forgiven; i < 1010; i++) {
            int place = z.sin(0, 1, 1);
            z.forgive(place == NONE ? 0 : place);
        }
        Check.due("FORGIVEN in all at most 999", z.count(9), 999);
        Check.due("of farms they are counted on", z.farm(0, 5) + z.farm(1, 5) >= 1010, true);
    }

    /** The same by acts of their own; lime comes by giving and buying. */
    private static void years() {
        for (int seed = -40; seed < 40; seed++) {
            FenceYards x = Check.village("sl20;f;fy20g0;fy6g9;w;wa2v0k9");
            FenceYards y = Check.village("sl20;f;fy20g0;fy6g9;w;wa2v0k9");
            int mark = (seed + 40) % 10;
            x.apples(mark);
            long drawn = seed * 1234567890123L;
            Check.due("years(30, ..)", x.years(30, drawn), 30);
            for (int day = 0; day < 30; day++) {
                drawn = next(drawn);
                if ((drawn >>> 33) % 10 < mark) {
                    long one = next(drawn);
                    long other = next(one);
                    drawn = next(other);
                    y.sin((int) ((one >>> 33) % 3), (int) ((other >>> 33) % 3), (int) ((drawn >>> 33) % 9) + 1);
                }
                drawn = next(drawn);
                y.forgive((int) ((drawn >>> 33) % 9));
                y.give(3);
                y.buy(3);
                y.day();
            }
            Observed.dueAlike("years by seed " + seed, x, y, 14);
            Check.due("each day is one act", x.count(14), 30);
        }
        FenceYards once = Check.village("f;f;w");
        once.years(1, 0);
        Check.due("LIME 3 more", once.count(7), once.farm(1, 2) == 0 ? 43 : 37);
    }

    private static long next(long drawn) {
        return drawn * 6364136223846793005L + 1442695040888963407L;
    }

    private static void yearsRefused() {
        FenceYards x = new FenceYards();
        Check.due("years without a village", x.years(1, 1), NONE);
        Check.tell(x, 0, "f;f");
        Check.due("years(0)", x.years(0, 1), NONE);
        Check.due("years(31)", x.years(31, 1), NONE);
        Check.due("years(-1)", x.years(-1, 1), NONE);
        Check.due("years of the most", x.years(Integer.MAX_VALUE, 1), NONE);
        Check.due("DAY 0", x.count(6), 0);
        FenceYards y = atDay("f", 990);
        Check.due("beyond 999", y.years(10, 1), NONE);
        Check.due("DAY 990", y.count(6), 990);
        Check.due("up to 999", y.years(9, 1), 999);
    }

    private static void undoing() {
        FenceYards x = Check.village("sl60;f;f;w;wa1v0k8");
        Check.due("undo nothing", x.undo(), NONE);
        int[][] states = new int[10][];
        for (int i = 0; i < 9; i++) {
            states[i] = Observed.of(x);
            switch (i) {
                case 0: x.forgive(1); break;
                case 1: x.paint(1, 5); break;
                case 2: x.day(); break;
                case 3: x.inspect(1); break;
                case 4: x.sin(1, 0, 2); break;
                case 5: x.buy(7); break;
                case 6: x.give(9); break;
                case 7: x.years(1, 77); break;
                default: x.day(); break;
            }
            x.forgive(-1);
            x.buy(0);
            x.paint(7, 7);
        }
        Check.due("acts", x.count(14), 9);
        for (int i = 8; i >= 0; i--) {
            Check.due("undo", x.undo(), i);
            Observed.dueAlike("undone " + i, Observed.of(x), states[i]);
        }
        Check.due("undo no more", x.undo(), NONE);
    }

    private static void undoingFortyOnly() {
        FenceYards x = Check.village("sl99;fy40;fy30;w");
        int[][] states = new int[151][];
        for (int i = 0; i < 150; i++) {
            states[i] = Observed.of(x);
            if (i % 7 == 3) {
                x.paint(0, i % 3 + 1);
            } else {
                x.day();
            }
        }
        Check.due("forty at most", x.count(14), 40);
        for (int i = 149; i >= 110; i--) {
            Check.due("undo", x.undo(), i - 110);
            Observed.dueAlikeButActs("undone " + i, Observed.of(x), states[i]);
        }
        Check.due("undo no more", x.undo(), NONE);
        for (int i = 110; i < 130; i++) {
            Observed.dueAlikeButActs("done again " + i, Observed.of(x), states[i]);
            if (i % 7 == 3) {
                x.paint(0, i % 3 + 1);
            } else {
                x.day();
            }
        }
        for (int i = 129; i >= 110; i--) {
            x.undo();
            Observed.dueAlikeButActs("undone again " + i, Observed.of(x), states[i]);
        }
    }

    private static void theLog() {
        FenceYards x = Check.village("sl99;fy9;fy40");
        Check.due("no log yet", x.log(0, 0), NONE);
        for (int day = 0; day < 70; day++) {
            if (day % 2 == 0) {
                x.paint(0, 1);
            }
            x.day();
            Check.due("LOG length", x.count(13), Math.min(day + 1, 60));
        }
        Check.due("the latest", x.log(0, 1), 0);
        Check.due("the one ahead of it", x.log(1, 1), 1);
        Check.due("its LIME", x.log(1, 2), 99 - 35);
        Check.due("LIME of the 60th", x.log(59, 2), 99 - 6);
        Check.due("no 61st", x.log(60, 2), NONE);
        Check.due("log(-1, 0)", x.log(-1, 0), NONE);
        Check.due("log(0, 3)", x.log(0, 3), NONE);
        Check.due("log(0, -1)", x.log(0, -1), NONE);
        x.undo();
        x.undo();
        Check.due("undone with the LOG", x.log(0, 1), 0);
        Check.due("LOG has what it had", x.count(13), 60);
        Check.due("its LIME then", x.log(59, 2), 99 - 5);
        FenceYards y = Check.village("fy1;fy2;fy3");
        y.paint(1, 2);
        y.paint(2, 3);
        y.paint(0, 1);
        y.sin(0, 1, 9);
        y.inspect(1);
        y.forgive(0);
        y.day();
        Check.due("WHITE as bits", y.log(0, 0), 2);
        Check.due("came through of all", y.log(0, 1), 3);
    }
}
