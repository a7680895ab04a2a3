/** Promises 30 to 38: RING, CHAIN, OWN and DONE, GAME, RESTS, ODDS, SHARES, FADES, and what is foremost. */
public final class TiesTest {
    private static final int NONE = Check.NONE;
    private static final int HIDDEN = Check.HIDDEN;

    public static void main(String[] args) {
        rings();
        chains();
        scores();
        games();
        gamesRefused();
        rests();
        odds();
        shares();
        fades();
        foremost();
        bitsAndSums();
        Check.finish();
    }

    private static void rings() {
        Check.due("no wrong, no ring", Check.village("f;f").ring(), NONE);
        Check.due("two to one", Check.village("f;f;f;w;wa2v1").ring(), NONE);
        Check.due("two", Check.village("f;f;w;wa1v0").ring(), 2);
        FenceYards six = Check.village("f;f;f;f;f;f;w;wa1v2;wa2v3;wa3v4;wa4v5;wa5v0");
        Check.due("six", six.ring(), 6);
        six.sin(4, 1, 1);
        Check.due("four within", six.ring(), 4);
        six.forgive(2);
        Check.due("broken", six.ring(), NONE);
        six.sin(1, 0, 9);
        Check.due("two then", six.ring(), 2);
    }

    private static void chains() {
        FenceYards x = Check.village("f;f;f;f;f;f;w;wa1v2;wa2v3;wa3v4;wa4v5");
        for (int from = 0; from < 6; from++) {
            for (int to = 0; to < 6; to++) {
                Check.due("chain(" + from + ", " + to + ")", x.chain(from, to), to >= from ? to - from : NONE);
            }
        }
        x.sin(1, 4, 1);
        Check.due("a shorter one", x.chain(0, 5), 3);
        x.forgive(0);
        Check.due("a broken one", x.chain(0, 5), NONE);
        Check.due("chain(6, 0)", x.chain(6, 0), NONE);
        Check.due("chain(0, 6)", x.chain(0, 6), NONE);
        Check.due("chain(-1, -1)", x.chain(-1, -1), NONE);
        Check.due("chain(6, 6)", x.chain(6, 6), NONE);
        Check.due("chain(0, 32)", x.chain(0, 32), NONE);
        Check.due("chain(32, 0)", x.chain(32, 0), NONE);
    }

    private static void scores() {
        FenceYards x = Check.village("f;f;f;w;wa2v0;wa2v1;wa1v2;w");
        int[][] wants = {{0b10001, 0b10}, {0b1000, 0b10101}, {0b110, 0b1000}};
        for (int farm = 0; farm < 3; farm++) {
            Check.due("OWN of " + farm, x.score(farm, 0), wants[farm][0]);
            Check.due("DONE to " + farm, x.score(farm, 1), wants[farm][1]);
        }
        x.forgive(1);
        Check.due("OWN then", x.score(2, 0), 0b100);
        Check.due("DONE then", x.score(0, 1), 0);
        Check.due("score(3, 0)", x.score(3, 0), NONE);
        Check.due("score(-1, 0)", x.score(-1, 0), NONE);
        Check.due("score(0, 2)", x.score(0, 2), NONE);
        Check.due("score(0, -1)", x.score(0, -1), NONE);
    }

    private static void dueGame(FenceYards x, int choices, int first, int second) {
        Check.due("game(0, 1, " + choices + ", 0)", x.game(0, 1, choices / 10, choices % 10, 0), first);
        Check.due("game(0, 1, " + choices + ", 1)", x.game(0, 1, choices / 10, choices % 10, 1), second);
    }

    private static void games() {
        FenceYards x = Check.village("sl14;fy20g0;fy6g0;fy9;wa1v0k2;wk1;wa2v0k9;wk1;wa1v0k1");
        dueGame(x, 0, 0, 0);
        dueGame(x, 1, 0, 6);
        dueGame(x, 2, 0, 4);
        dueGame(x, 10, 8, 0);
        dueGame(x, 11, 8, 6);
        dueGame(x, 12, 8, 4);
        dueGame(x, 20, 7, 0);
        dueGame(x, 21, 7, 5);
        dueGame(x, 22, 7, 3);
        Check.due("the other way round", x.game(1, 0, 2, 2, 0), 4);
        Check.due("the other way round", x.game(1, 0, 2, 2, 1), 6);
        Check.due("nothing has happened", x.count(14) + x.count(9), 0);
        x.paint(1, 6);
        dueGame(x, 2, 0, -2);
        dueGame(x, 22, 6, -2);
        x.inspect(1);
        dueGame(x, 11, 8, 0);
        dueGame(x, 1, 0, 6);
    }

    private static void gamesRefused() {
        FenceYards x = Check.village("f;f;w");
        Check.due("alike", x.game(1, 1, 0, 0, 0), HIDDEN);
        Check.due("no such second", x.game(0, 2, 0, 0, 0), HIDDEN);
        Check.due("no such first", x.game(-1, 1, 0, 0, 0), HIDDEN);
        Check.due("x 3", x.game(0, 1, 3, 0, 0), HIDDEN);
        Check.due("x -1", x.game(0, 1, -1, 0, 0), HIDDEN);
        Check.due("y 3", x.game(0, 1, 0, 3, 0), HIDDEN);
        Check.due("y -1", x.game(0, 1, 0, -1, 0), HIDDEN);
        Check.due("what 2", x.game(0, 1, 0, 0, 2), HIDDEN);
        Check.due("what -1", x.game(0, 1, 0, 0, -1), HIDDEN);
    }

    private static void dueRests(FenceYards x, int one, int other, int... wants) {
        Check.due("how many rests", x.rests(one, other, NONE), wants.length);
        for (int i = 0; i < wants.length; i++) {
            Check.due("rest " + i, x.rests(one, other, i), wants[i]);
        }
        Check.due("no rest behind them", x.rests(one, other, wants.length), NONE);
        Check.due("no rest -2", x.rests(one, other, -2), NONE);
    }

    private static void rests() {
        dueRests(Check.village("sl0;f;f;w"), 0, 1, 0, 1, 10, 11);
        dueRests(Check.village("sl2;f;f"), 0, 1, 0, 1, 2, 10, 11, 12, 20, 21);
        dueRests(Check.village("sl40;f;f"), 0, 1, 22);
        dueRests(Check.village("sl40;fy4g0;fy4g0;w"), 0, 1, 21);
        dueRests(Check.village("sl40;fy2g0;fy4g0;w"), 0, 1, 1, 11, 21);
        FenceYards x = Check.village("f;f");
        Check.due("alike", x.rests(0, 0, NONE), NONE);
        Check.due("no such first", x.rests(2, 0, NONE), NONE);
        Check.due("no such second", x.rests(0, -1, NONE), NONE);
    }

    private static void odds() {
        FenceYards x = Check.village("sl99;fy8g0;fy6;fy3;wa1v0k2;wa2v0k1;wa1v0k1;w");
        Check.due("any that has 8", x.odds(0, 50), 375000000);
        Check.due("never", x.odds(0, 0), 0);
        Check.due("always", x.odds(0, 100), 1000000000);
        // 0 and 1: 0.3 * 0.3; 0, not 1, 2: 0.3 * 0.7 * 0.3.
        Check.due("by 30", x.odds(0, 30), 90000000 + 63000000);
        Check.due("one alone", x.odds(1, 7), 70000000);
        Check.due("none done to it", x.odds(2, 100), 0);
        x.paint(2, 3);
        Check.due("white already", x.odds(2, 0), 1000000000);
        Check.due("odds(3, 1)", x.odds(3, 1), NONE);
        Check.due("odds(-1, 1)", x.odds(-1, 1), NONE);
        Check.due("odds(0, 101)", x.odds(0, 101), NONE);
        Check.due("odds(0, -1)", x.odds(0, -1), NONE);
        FenceYards cut = Check.village("sl99;fy40;fy40;w;w;w;w;w;w;w;w;w");
        Check.rule(cut, "y:n=8?40;y:0");
        Check.due("cut nine times", cut.odds(1, 7), 0);
        Check.due("cut nine times by 33", cut.odds(1, 33), cutNineTimes(33));
        Check.due("cut nine times by 99", cut.odds(1, 99), cutNineTimes(99));
    }

    private static int cutNineTimes(int chance) {
        long parts = 1000000000;
        for (int i = 0; i < 9; i++) {
            parts = parts * chance / 100;
        }
        return (int) parts;
    }

    private static void shares() {
        FenceYards x = Check.village("sl99;fy9g0;fy9g0;f;wa1v0k3;wk1;wa1v2k9");
        Check.due("none is white", x.shares(0, 100), 0);
        x.paint(2, 5);
        Check.due("false white has no share", x.shares(2, 100), 0);
        x.forgive(0);
        x.forgive(1);
        Check.due("7 of 10", x.shares(0, 99), 69);
        Check.due("3 of 10", x.shares(1, 99), 29);
        Check.due("0 of 10", x.shares(2, 99), 0);
        Check.due("of nothing", x.shares(0, 0), 0);
        Check.due("of 999", x.shares(0, 999), 699);
        Check.due("shares(0, 1000)", x.shares(0, 1000), NONE);
        Check.due("shares(0, -1)", x.shares(0, -1), NONE);
        Check.due("shares(3, 1)", x.shares(3, 1), NONE);
        Check.due("shares(-1, 1)", x.shares(-1, 1), NONE);
    }

    private static void fades() {
        FenceYards x = Check.village("sl99;fy40g0;f;wa1v0k9;wa1v0k9;wa1v0k9;wa1v0k9");
        Check.due("bare already", x.fades(0), 0);
        x.paint(1, 9);
        Check.due("by 4, 2, 1, 0", x.fades(1), 4);
        for (int i = 0; i < 4; i++) {
            x.forgive(i);
        }
        Check.due("forty yards", x.fades(0), 120);
        x.day();
        Check.due("a day later", x.fades(0), 119);
        x.day();
        x.day();
        Check.due("39 yards", x.fades(0), 117);
        Check.due("the day is as it was", x.count(6), 3);
        Check.due("fades(2)", x.fades(2), NONE);
        Check.due("fades(-1)", x.fades(-1), NONE);
    }

    private static void dueAll(FenceYards x, int... wants) {
        for (int what = 0; what < wants.length; what++) {
            Check.due("all(" + what + ")", x.all(what), wants[what]);
        }
    }

    private static void foremost() {
        dueAll(Check.village("f;f;f"), 0, 0, 0, 0, 0, 0, NONE, 0, 0, 0, 0, 0, 0);
        FenceYards x = Check.village("sl99;fy5g2;fy9g7;fy30g7;fy30;wa3v2k4;wa1v0k6;wa3v2k6;w");
        dueAll(x, 0, 2, 1, 2, 3, 2, 1);
        x.forgive(2);
        dueAll(x, 2, 3, 1, 2, 0, 0, 1);
        x.forgive(1);
        dueAll(x, 2, 3, 1, 2, 0, 1, 0);
        x.sin(3, 0, 9);
        dueAll(x, 2, 3, 1, 2, 3, 0, 1);
    }

    private static void bitsAndSums() {
        FenceYards x = Check.village("sl30;fy5g0;fy9g0;fy30;wa1v0k9;w;wa2v1k1");
        x.forgive(0);
        x.paint(1, 2);
        x.paint(2, 3);
        Check.due("WHITE", x.all(7), 0b1);
        Check.due("FALSE", x.all(8), 0b110);
        Check.due("OPEN", x.all(9), 0b110);
        Check.due("NEEDED", x.all(10), 7 + 27 - 20);
        x.buy(13);
        Check.due("NEEDED less", x.all(10), 1);
        x.buy(5);
        Check.due("NEEDED no more", x.all(10), 0);
        x.forgive(2);
        Check.due("TRUE in all", x.all(11), 8);
        Check.due("FALSE in all", x.all(12), 5);
        FenceYards few = Check.village("sl5;fy4;fy3;wa1v0k1");
        few.paint(0, 1);
        Check.due("FALSE of one yard", few.all(8), 1);
        Check.due("NEEDED of both", few.all(10), 2);
        Check.due("HEAVIEST of weight 1", few.all(6), 0);
        Check.due("all(13)", x.all(13), NONE);
        Check.due("all(-1)", x.all(-1), NONE);
        Check.due("all without a village", new FenceYards().all(9), NONE);
    }
}
