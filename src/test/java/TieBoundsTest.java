import java.util.function.Supplier;
import java.util.function.ToLongFunction;

/** Boundary cases of promises 30 to 38: RING, CHAIN, OWN and DONE, GAME, RESTS, ODDS, SHARES, FADES, foremost ones. */
public final class TieBoundsTest {
    private static final int NONE = Check.NONE;
    private static final int HIDDEN = Check.HIDDEN;
    private static final int LOWEST = Integer.MIN_VALUE;
    private static final int HIGHEST = Integer.MAX_VALUE;
    private static final String SIX = "f;f;f;f;f;f";

    public static void main(String[] args) {
        ringNone();
        ringFewestAndMost();
        chainToItself();
        chainFewestAndMost();
        chainRefused();
        scoreFirstAndLastPlace();
        scoreRefused();
        gameRefused();
        gameNothing();
        gameForgiving();
        gamePaintingNineAtMost();
        gamePaintingNone();
        gameOneBehindTheOther();
        restsOneToNine();
        restsRefused();
        oddsRefused();
        oddsNoneAndAll();
        oddsWhiteAlready();
        oddsAreCut();
        oddsByNine();
        sharesRefused();
        sharesOfNone();
        sharesAreCut();
        fadesRefused();
        fadesAtOnce();
        fadesOfFalse();
        fadesOfTrue();
        fadesIn120();
        fadesBehind999();
        allRefused();
        allOfSeveral();
        allOfTheLast();
        allHeaviest();
        allBits();
        allNeeded();
        questionsChangeNothing();
        Check.finish();
    }

    private static void onBusy(String name, ToLongFunction<FenceYards> call, long want) {
        Unchanged.due(name, Unchanged::busy, call, want);
    }

    private static void refused(String name, ToLongFunction<FenceYards> call) {
        onBusy(name, call, NONE);
    }

    private static FenceYards ruled(String village, String law) {
        FenceYards x = Check.village(village);
        Check.rule(x, law);
        return x;
    }

    private static void ringNone() {
        Check.due("one farm", Check.village("f").ring(), NONE);
        Check.due("no wrong", Check.village(SIX).ring(), NONE);
        Check.due("one wrong", Check.village("f;f;w").ring(), NONE);
        Check.due("nine one way", Check.village("f;f;w;w;w;w;w;w;w;w;w").ring(), NONE);
        Check.due("a chain of six", Check.village(SIX + ";w;wa1v2;wa2v3;wa3v4;wa4v5").ring(), NONE);
        Check.due("two ways to one", Check.village("f;f;f;w;wv2;wa1v2").ring(), NONE);
    }

    private static void ringFewestAndMost() {
        Check.due("two", Check.village("f;f;w;wa1v0").ring(), 2);
        Check.due("two of the last farms", Check.village(SIX + ";wa4v5;wa5v4").ring(), 2);
        Check.due("two by the last place", Check.village("f;f;w;w;w;w;w;w;w;w;wa1v0").ring(), 2);
        Check.due("three", Check.village("f;f;f;w;wa1v2;wa2v0").ring(), 3);
        Check.due("six", Check.village(SIX + ";w;wa1v2;wa2v3;wa3v4;wa4v5;wa5v0").ring(), 6);
        Check.due("two beside six", Check.village(SIX + ";w;wa1v2;wa2v3;wa3v4;wa4v5;wa5v0;wa5v4").ring(), 2);
        Check.due("two behind three", Check.village(SIX + ";w;wa1v2;wa2v0;wa3v4;wa4v3").ring(), 2);
        Check.due("two ahead of three", Check.village(SIX + ";w;wa1v0;wa2v3;wa3v4;wa4v2").ring(), 2);
        Check.due("three behind two one way", Check.village(SIX + ";w;wa1v2;wa3v4;wa4v5;wa5v3").ring(), 3);
        FenceYards x = Check.village("f;f;w;wa1v0");
        x.forgive(1);
        Check.due("forgiven", x.ring(), NONE);
    }

    private static void chainToItself() {
        FenceYards x = Check.village("f;f;w;wa1v0");
        Check.due("to itself, in a ring", x.chain(0, 0), 0);
        Check.due("the last to itself", Check.village(SIX).chain(5, 5), 0);
        Check.due("one farm to itself", Check.village("f").chain(0, 0), 0);
    }

    private static void chainFewestAndMost() {
        FenceYards x = Check.village(SIX + ";wa4v5;wa3v4;wa2v3;wa1v2;w");
        Check.due("one", x.chain(0, 1), 1);
        Check.due("five", x.chain(0, 5), 5);
        Check.due("not the other way", x.chain(5, 0), NONE);
        x.sin(0, 5, 1);
        Check.due("one then", x.chain(0, 5), 1);
        Check.due("no wrong", Check.village("f;f").chain(0, 1), NONE);
        Check.due("by the last place", Check.village("f;f;w;w;w;w;w;w;w;w;wa1v0").chain(1, 0), 1);
    }

    private static void chainRefused() {
        refused("chain(-1, 0)", x -> x.chain(-1, 0));
        refused("chain(0, -1)", x -> x.chain(0, -1));
        refused("chain(3, 0)", x -> x.chain(3, 0));
        refused("chain(0, 3)", x -> x.chain(0, 3));
        refused("chain(3, 3)", x -> x.chain(3, 3));
        refused("chain(-1, -1)", x -> x.chain(-1, -1));
        refused("chain(32, 0)", x -> x.chain(32, 0));
        refused("chain(0, 32)", x -> x.chain(0, 32));
        refused("chain of the extremes", x -> x.chain(LOWEST, HIGHEST));
    }

    private static void scoreFirstAndLastPlace() {
        FenceYards x = Check.village("f;f;f;w;wa1v2;wa1v2;wa1v2;wa1v2;wa1v2;wa1v2;wa1v2;w");
        Check.due("OWN of 0", x.score(0, 0), 0b100000001);
        Check.due("DONE to 1", x.score(1, 1), 0b100000001);
        Check.due("OWN of 1", x.score(1, 0), 0b011111110);
        Check.due("DONE to 2", x.score(2, 1), 0b011111110);
        Check.due("OWN of none", x.score(2, 0), 0);
        Check.due("DONE to none", x.score(0, 1), 0);
        Check.due("all nine", Check.village("f;f;w;w;w;w;w;w;w;w;w").score(0, 0), 511);
    }

    private static void scoreRefused() {
        refused("score(-1, 0)", x -> x.score(-1, 0));
        refused("score(3, 0)", x -> x.score(3, 0));
        refused("score(0, -1)", x -> x.score(0, -1));
        refused("score(0, 2)", x -> x.score(0, 2));
        refused("score of the lowest", x -> x.score(LOWEST, 0));
        refused("score of the highest", x -> x.score(HIGHEST, 0));
        refused("score(0, lowest)", x -> x.score(0, LOWEST));
        refused("score(0, highest)", x -> x.score(0, HIGHEST));
    }

    private static void gameRefused() {
        onBusy("game(0, 0, ..)", x -> x.game(0, 0, 0, 0, 0), HIDDEN);
        onBusy("game(2, 2, ..)", x -> x.game(2, 2, 0, 0, 0), HIDDEN);
        onBusy("game(-1, 0, ..)", x -> x.game(-1, 0, 0, 0, 0), HIDDEN);
        onBusy("game(0, -1, ..)", x -> x.game(0, -1, 0, 0, 0), HIDDEN);
        onBusy("game(3, 0, ..)", x -> x.game(3, 0, 0, 0, 0), HIDDEN);
        onBusy("game(0, 3, ..)", x -> x.game(0, 3, 0, 0, 0), HIDDEN);
        onBusy("game x -1", x -> x.game(0, 1, -1, 0, 0), HIDDEN);
        onBusy("game x 3", x -> x.game(0, 1, 3, 0, 0), HIDDEN);
        onBusy("game y -1", x -> x.game(0, 1, 0, -1, 0), HIDDEN);
        onBusy("game y 3", x -> x.game(0, 1, 0, 3, 0), HIDDEN);
        onBusy("game what -1", x -> x.game(0, 1, 0, 0, -1), HIDDEN);
        onBusy("game what 2", x -> x.game(0, 1, 0, 0, 2), HIDDEN);
        onBusy("game of the lowest", x -> x.game(LOWEST, LOWEST, LOWEST, LOWEST, LOWEST), HIDDEN);
        onBusy("game of the highest", x -> x.game(0, 1, HIGHEST, HIGHEST, HIGHEST), HIDDEN);
        onBusy("game x of the highest", x -> x.game(0, 1, HIGHEST, 0, 0), HIDDEN);
        onBusy("game y of the lowest", x -> x.game(0, 1, 0, LOWEST, 0), HIDDEN);
        FenceYards one = Check.village("f");
        Check.due("a game of one farm", one.game(0, 1, 0, 0, 0), HIDDEN);
        FenceYards six = Check.village(SIX);
        Check.due("a game of the last farm", six.game(5, 0, 2, 2, 1), 7);
        Check.due("a game of one behind it", six.game(6, 0, 2, 2, 1), HIDDEN);
    }

    private static void dueGame(FenceYards x, int choices, int first, int second) {
        Check.due("game of " + choices + ", the first", x.game(0, 1, choices / 10, choices % 10, 0), first);
        Check.due("game of " + choices + ", the second", x.game(0, 1, choices / 10, choices % 10, 1), second);
    }

    private static void gameNothing() {
        dueGame(Check.village("f;f;w;wa1v0"), 0, 0, 0);
        dueGame(Check.village("f;f"), 11, 0, 0);
        dueGame(Check.village("f;f;f;wa2v0;wa2v1"), 11, 0, 0);
        FenceYards x = Check.village("f;f;w");
        x.paint(0, 4);
        x.forgive(0);
        dueGame(x, 0, 0, 0);
    }

    private static void gameForgiving() {
        dueGame(ruled("sl99;fy9;fy5" + ";wa1v0".repeat(9), "y:1"), 10, 9, 0);
        dueGame(ruled("sl99;fy8;fy5" + ";wa1v0".repeat(9), "y:1"), 10, 8, 0);
        dueGame(ruled("sl7;fy9;fy5" + ";wa1v0".repeat(9), "y:1"), 10, 7, 0);
        dueGame(ruled("sl99;fy40;fy40;wa1v0k1;wa1v0k2;wa1v0k3", "y:n*k"), 10, 0 + 2 + 6, 0);
        dueGame(ruled("sl0;fy9;fy5;wa1v0", "y:1"), 10, 0, 0);
    }

    private static void gamePaintingNineAtMost() {
        dueGame(Check.village("sl99;fy8;fy40"), 20, 8 - 2, 0);
        dueGame(Check.village("sl99;fy9;fy40"), 20, 9 - 2, 0);
        dueGame(Check.village("sl99;fy10;fy40"), 20, 9 - 2, 0);
        dueGame(Check.village("sl8;fy40;fy40"), 2, 0, 8 - 2);
        dueGame(Check.village("sl9;fy40;fy40"), 2, 0, 9 - 2);
        dueGame(Check.village("sl10;fy40;fy40"), 2, 0, 9 - 2);
        dueGame(Check.village("sl1;fy40;fy40"), 2, 0, 1 - 2);
        dueGame(Check.village("sl99;fy1;fy2"), 22, 1 - 2, 0);
    }

    /** It chose 2 all the same. */
    private static void gamePaintingNone() {
        dueGame(Check.village("sl0;f;f"), 22, -2, -2);
        FenceYards x = Check.village("fy5;f");
        x.paint(0, 5);
        dueGame(x, 20, -2, 0);
    }

    /** The first one's lime is gone for the second. */
    private static void gameOneBehindTheOther() {
        FenceYards x = Check.village("sl10;fy40;fy40;w;wa1v0");
        dueGame(x, 22, 9 - 2, 1 - 2);
        dueGame(x, 21, 9 - 2, 1);
        dueGame(x, 12, 6, 4 - 2);
        dueGame(x, 11, 6, 4);
        FenceYards nine = Check.village("sl9;fy40;fy40;w;wa1v0");
        dueGame(nine, 22, 9 - 2, -2);
        dueGame(nine, 21, 9 - 2, 0);
    }

    private static void dueRests(FenceYards x, int... wants) {
        Check.due("rests", x.rests(0, 1, NONE), wants.length);
        for (int i = 0; i < wants.length; i++) {
            Check.due("rest " + i, x.rests(0, 1, i), wants[i]);
        }
        Check.due("behind these", x.rests(0, 1, wants.length), NONE);
    }

    /** There is always one: what the first one has is its own doing, and the second one sees it. */
    private static void restsOneToNine() {
        dueRests(Check.village("sl40;f;f"), 22);
        dueRests(Check.village("sl40;fy2;fy2"), 0, 1, 2, 10, 11, 12, 20, 21, 22);
        dueRests(Check.village("sl0;f;f"), 0, 1, 10, 11);
        dueRests(Check.village("sl40;fy1;fy1"), 0, 1, 10, 11);
        dueRests(Check.village("sl40;fy1;fy2"), 0, 1, 2, 10, 11, 12);
        dueRests(Check.village("sl40;fy6;fy6;w;wa1v0"), 11);
        dueRests(ruled("sl40;fy9;fy9;w;wa1v0", "y:7"), 11, 12, 21, 22);
    }

    private static void restsRefused() {
        refused("rests(0, 0, NONE)", x -> x.rests(0, 0, NONE));
        refused("rests(-1, 0, NONE)", x -> x.rests(-1, 0, NONE));
        refused("rests(0, -1, NONE)", x -> x.rests(0, -1, NONE));
        refused("rests(3, 0, NONE)", x -> x.rests(3, 0, NONE));
        refused("rests(0, 3, NONE)", x -> x.rests(0, 3, NONE));
        refused("rests(0, 1, -2)", x -> x.rests(0, 1, -2));
        refused("rests(0, 1, 9)", x -> x.rests(0, 1, 9));
        refused("rests(0, 1, lowest)", x -> x.rests(0, 1, LOWEST));
        refused("rests(0, 1, highest)", x -> x.rests(0, 1, HIGHEST));
        refused("rests of the extremes", x -> x.rests(LOWEST, HIGHEST, 0));
    }

    private static void oddsRefused() {
        refused("odds(-1, 1)", x -> x.odds(-1, 1));
        refused("odds(3, 1)", x -> x.odds(3, 1));
        refused("odds(0, -1)", x -> x.odds(0, -1));
        refused("odds(0, 101)", x -> x.odds(0, 101));
        refused("odds of the lowest", x -> x.odds(LOWEST, 1));
        refused("odds of the highest", x -> x.odds(HIGHEST, 1));
        refused("odds(0, lowest)", x -> x.odds(0, LOWEST));
        refused("odds(0, highest)", x -> x.odds(0, HIGHEST));
    }

    private static void oddsNoneAndAll() {
        FenceYards x = ruled("sl99;fy1;f;wa1v0;wa1v0", "y:1");
        Check.due("chance 0", x.odds(0, 0), 0);
        Check.due("chance 100", x.odds(0, 100), 1000000000);
        Check.due("chance 1", x.odds(0, 1), 10000000 + 9900000);
        Check.due("chance 99", x.odds(0, 99), 990000000 + 9900000);
        Check.due("none done to it", x.odds(1, 100), 0);
        Check.due("too little for it", ruled("sl99;fy3;f;wa1v0;wa1v0", "y:1").odds(0, 100), 0);
        Check.due("the last farm", ruled(SIX + "y1;wv5", "y:1").odds(5, 50), 500000000);
    }

    private static void oddsWhiteAlready() {
        FenceYards x = Check.village("fy3;f;wa1v0");
        x.paint(0, 3);
        for (int chance : new int[] {0, 1, 50, 100}) {
            Check.due("white already, chance " + chance, x.odds(0, chance), 1000000000);
        }
    }

    private static int cut(int chance, int times) {
        long parts = 1000000000;
        for (int i = 0; i < times; i++) {
            parts = parts * chance / 100;
        }
        return (int) parts;
    }

    private static void oddsAreCut() {
        int[] wants = {1000000000, 10000000, 100000, 1000, 10, 0};
        for (int needed = 1; needed <= 5; needed++) {
            FenceYards x = ruled("sl99;fy" + needed + ";f" + ";wa1v0".repeat(needed), "y:1");
            Check.due(needed + " by 1 of 100", x.odds(0, 1), wants[needed]);
            Check.due(needed + " by 33 of 100", x.odds(0, 33), cut(33, needed));
            Check.due(needed + " by 99 of 100", x.odds(0, 99), cut(99, needed));
        }
        // The first and second 1e5; the first, not the second, the third 99000; not the first, the others 99000.
        FenceYards two = ruled("sl99;fy2;f;wa1v0;wa1v0;wa1v0", "y:1");
        Check.due("two of three", two.odds(0, 1), 100000 + 99000 + 99000);
    }

    private static void oddsByNine() {
        FenceYards all = ruled("sl99;fy9;f" + ";wa1v0".repeat(9), "y:1");
        Check.due("all nine by 50", all.odds(0, 50), cut(50, 9));
        Check.due("all nine by 100", all.odds(0, 100), 1000000000);
        FenceYards any = ruled("sl99;fy1;f" + ";wa1v0".repeat(9), "y:1");
        long none = 1000000000;
        for (int i = 0; i < 9; i++) {
            none -= none * 37 / 100;
        }
        Check.due("any of nine by 37", any.odds(0, 37), 1000000000 - none);
    }

    private static void sharesRefused() {
        refused("shares(-1, 1)", x -> x.shares(-1, 1));
        refused("shares(3, 1)", x -> x.shares(3, 1));
        refused("shares(0, -1)", x -> x.shares(0, -1));
        refused("shares(0, 1000)", x -> x.shares(0, 1000));
        refused("shares of the lowest", x -> x.shares(LOWEST, 1));
        refused("shares of the highest", x -> x.shares(HIGHEST, 1));
        refused("shares(0, lowest)", x -> x.shares(0, LOWEST));
        refused("shares(0, highest)", x -> x.shares(0, HIGHEST));
    }

    private static void sharesOfNone() {
        FenceYards x = Check.village("f;f");
        Check.due("no true white", x.shares(0, 999), 0);
        x.paint(0, 5);
        Check.due("false white alone", x.shares(0, 999), 0);
        FenceYards y = Check.village("f;f;w");
        y.forgive(0);
        Check.due("all of 999", y.shares(1, 999), 999);
        Check.due("none of 999", y.shares(0, 999), 0);
        Check.due("all of 0", y.shares(1, 0), 0);
    }

    private static void sharesAreCut() {
        FenceYards x = ruled("sl99;f;f;f;w;wa1v0;wv2", "y:1");
        for (int place = 0; place < 3; place++) {
            x.forgive(place);
        }
        Check.due("a third of 1", x.shares(0, 1), 0);
        Check.due("a third of 2", x.shares(1, 2), 0);
        Check.due("a third of 3", x.shares(2, 3), 1);
        Check.due("a third of 998", x.shares(0, 998), 332);
        Check.due("a third of 999", x.shares(0, 999), 333);
        FenceYards most = ruled("sl99;fy40;fy40;f;w;wa1v0", "y:40");
        most.forgive(0);
        most.forgive(1);
        Check.due("half of 999", most.shares(1, 999), 499);
    }

    private static void fadesRefused() {
        refused("fades(-1)", x -> x.fades(-1));
        refused("fades(3)", x -> x.fades(3));
        refused("fades of the lowest", x -> x.fades(LOWEST));
        refused("fades of the highest", x -> x.fades(HIGHEST));
    }

    private static void fadesAtOnce() {
        Check.due("never white", Check.village("f").fades(0), 0);
        Check.due("the last farm", Check.village(SIX).fades(5), 0);
        FenceYards x = Check.village("f");
        x.paint(0, 1);
        x.inspect(0);
        Check.due("inspected", x.fades(0), 0);
    }

    private static void fadesOfFalse() {
        int[][] cases = {{1, 1}, {2, 2}, {3, 2}, {4, 3}, {7, 3}, {8, 4}, {15, 4}, {16, 5}, {31, 5}, {32, 6}, {40, 6}};
        for (int[] one : cases) {
            FenceYards x = Check.village("sl99;fy40");
            for (int left = one[0]; left > 0; left -= 9) {
                x.paint(0, Math.min(9, left));
            }
            Check.due("FALSE " + one[0], x.fades(0), one[1]);
        }
    }

    private static void fadesOfTrue() {
        for (int day = 0; day < 6; day++) {
            FenceYards x = ruled("f;f;w;w", "y:1");
            for (int i = 0; i < day; i++) {
                x.day();
            }
            x.forgive(0);
            Check.due("one yard on day " + day, x.fades(1), 3 - day % 3);
            x.forgive(1);
            Check.due("two yards on day " + day, x.fades(1), 6 - day % 3);
            x.paint(1, 8);
            Check.due("beside false white", x.fades(1), Math.max(6 - day % 3, 4));
        }
    }

    /** Forty yards are the most, and three days wear one: it is never beyond 120. */
    private static void fadesIn120() {
        FenceYards x = ruled("sl99;f;fy40;w", "y:40");
        x.forgive(0);
        Check.due("forty yards", x.fades(1), 120);
        x.day();
        Check.due("forty yards on day 1", x.fades(1), 119);
        x.day();
        Check.due("forty yards on day 2", x.fades(1), 118);
        x.day();
        Check.due("39 yards on day 3", x.fades(1), 117);
        FenceYards less = ruled("sl99;f;fy40;w", "y:39");
        less.forgive(0);
        less.paint(1, 1);
        Check.due("39 yards and a false one", less.fades(1), 117);
    }

    private static void fadesBehind999() {
        for (int day = 997; day <= 999; day++) {
            FenceYards x = Days.at("sl99;f;fy40", day);
            Check.rule(x, "y:40");
            x.forgive(x.sin(0, 1, 1));
            Check.due("forty yards on day " + day, x.fades(1), 120 - day % 3);
            Check.due("the DAY is as it was", x.count(6), day);
        }
        Unchanged.due("fades on day 999", () -> {
            FenceYards x = Days.at("f;f", 999);
            x.paint(0, 9);
            return x;
        }, x -> x.fades(0), 4);
    }

    private static void allRefused() {
        refused("all(-1)", x -> x.all(-1));
        refused("all(13)", x -> x.all(13));
        refused("all of the lowest", x -> x.all(LOWEST));
        refused("all of the highest", x -> x.all(HIGHEST));
    }

    private static void dueAll(FenceYards x, int... wants) {
        for (int what = 0; what < wants.length; what++) {
            Check.due("all(" + what + ")", x.all(what), wants[what]);
        }
    }

    /** Of several the lowest; and where there is nothing at all. */
    private static void allOfSeveral() {
        dueAll(Check.village("f"), 0, 0, 0, 0, 0, 0, NONE, 0, 0, 0, 0, 0, 0);
        dueAll(Check.village(SIX), 0, 0, 0, 0, 0, 0, NONE, 0, 0, 0, 20, 0, 0);
        FenceYards x = ruled("sl99;fy9g1;fy8g5;fy9g5;fy9g5;wa3v2;wa3v2;wa2v3;wa2v3;wa0v1", "y:1");
        dueAll(x, 0, 0, 1, 0, 2, 2, 0);
        x.forgive(0);
        x.forgive(2);
        dueAll(x, 2, 0, 1, 0, 0, 1, 1);
    }

    private static void allOfTheLast() {
        FenceYards x = ruled("sl99;f;f;f;f;f;fy11g4;wa5v0;wa5v1;wv5;wa1v5;wa2v5", "y:k");
        dueAll(x, 0, 5, 5, 5, 5, 5, 0);
        x.forgive(2);
        dueAll(x, 5, 0, 5, 5, 5, 5, 0);
    }

    private static void allHeaviest() {
        Check.due("none is open", Check.village("f;f").all(6), NONE);
        Check.due("one of weight 1", Check.village("f;f;wk1").all(6), 0);
        Check.due("of several the lowest", Check.village("f;f;wk1;wk9;wk9").all(6), 1);
        Check.due("in the last place", Check.village("f;f;w;w;w;w;w;w;w;w;wk4").all(6), 8);
        FenceYards x = Check.village("f;f;wk9;wk2");
        x.forgive(0);
        Check.due("the heavier one is forgiven", x.all(6), 1);
        x.forgive(1);
        Check.due("both are", x.all(6), NONE);
    }

    private static void allBits() {
        FenceYards x = Check.village("sl99;fy1;fy1;fy1;fy1;fy1;fy1;w;w;w;w;w;w;w;w;w");
        Check.due("OPEN, all nine", x.all(9), 511);
        Check.due("WHITE, none", x.all(7), 0);
        Check.due("FALSE, none", x.all(8), 0);
        for (int farm = 0; farm < 6; farm++) {
            x.paint(farm, 1);
        }
        Check.due("WHITE, all six", x.all(7), 63);
        Check.due("FALSE, all six", x.all(8), 63);
        Check.due("FALSE in all", x.all(12), 6);
        Check.due("TRUE in all", x.all(11), 0);
        x.inspect(5);
        Check.due("WHITE but the last", x.all(7), 31);
        Check.due("FALSE but the last", x.all(8), 31);
        FenceYards truly = ruled("sl99;fy40;fy40;w;wa1v0", "y:40");
        truly.forgive(0);
        truly.forgive(1);
        Check.due("TRUE in all", truly.all(11), 80);
        Check.due("WHITE by true white", truly.all(7), 3);
        Check.due("FALSE by true white", truly.all(8), 0);
        Check.due("OPEN, none", truly.all(9), 0);
    }

    private static void allNeeded() {
        Check.due("LIME as much as is bare", Check.village("sl10;f").all(10), 0);
        Check.due("one less", Check.village("sl9;f").all(10), 1);
        Check.due("one more", Check.village("sl11;f").all(10), 0);
        Check.due("no lime", Check.village("sl0;fy40;fy40;fy40;fy40;fy40;fy40").all(10), 240);
        FenceYards x = Check.village("sl10;f");
        x.paint(0, 9);
        Check.due("painted", x.all(10), 0);
        x.day();
        Check.due("come through", x.all(10), 10 - 4 - 1);
    }

    private static void questionsChangeNothing() {
        asked("ring", x -> x.ring());
        asked("chain", x -> x.chain(0, 2));
        asked("score", x -> x.score(2, 1));
        for (int i = 0; i < 9; i++) {
            int x0 = i / 3;
            int y0 = i % 3;
            asked("game", x -> x.game(0, 2, x0, y0, 0));
            asked("game", x -> x.game(2, 1, x0, y0, 1));
        }
        asked("rests", x -> x.rests(0, 2, NONE));
        asked("odds", x -> x.odds(0, 37));
        asked("shares", x -> x.shares(1, 99));
        asked("fades", x -> x.fades(1));
        for (int i = 0; i < 13; i++) {
            int what = i;
            asked("all", x -> x.all(what));
        }
    }

    private static void asked(String name, ToLongFunction<FenceYards> call) {
        Supplier<FenceYards> made = Unchanged::busy;
        Unchanged.due(name, made, call, call.applyAsLong(made.get()));
    }
}
