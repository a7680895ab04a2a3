import java.util.Arrays;
import java.util.Random;

/** Plans, games, odds, rings and the like on random villages, against trying all by acts on objects of their own. */
public final class TrialTest {
    private static final int NONE = Check.NONE;
    private static final String[] LAWS = {"y:k*2", "y:n*3+k", "y:b/2+1", "y:l/4", "y:n>1?9;y:b>5&k<6?b-3;y:k+g",
        "y:d+n*n"};

    private final long seed;
    private final FenceYards x;
    private final int farms;

    private TrialTest(long seed) {
        this.seed = seed;
        this.x = made();
        this.farms = x.count(0);
    }

    public static void main(String[] args) {
        for (int seed = 0; seed < 400; seed++) {
            TrialTest trial = new TrialTest(seed);
            trial.subsets();
            trial.pairs();
            trial.games();
            trial.ties();
            trial.fading();
        }
        Check.finish();
    }

    /** The same village with the same acts each time. */
    private FenceYards made() {
        Random random = new Random(seed);
        int count = 2 + random.nextInt(5);
        StringBuilder text = new StringBuilder("sl").append(random.nextInt(100));
        for (int i = 0; i < count; i++) {
            int most = random.nextBoolean() ? 8 : 40;
            text.append(";fy").append(1 + random.nextInt(most)).append('g').append(random.nextInt(10));
        }
        FenceYards y = Check.village(text.toString());
        if (random.nextInt(3) > 0) {
            Check.rule(y, LAWS[random.nextInt(LAWS.length)]);
        }
        for (int i = random.nextInt(40); i > 0; i--) {
            int act = random.nextInt(8);
            if (act < 4) {
                y.sin(random.nextInt(count), random.nextInt(count), 1 + random.nextInt(9));
            } else if (act == 4) {
                y.forgive(random.nextInt(9));
            } else if (act == 5) {
                y.paint(random.nextInt(count), 1 + random.nextInt(9));
            } else if (act == 6) {
                y.day();
            } else {
                y.buy(1 + random.nextInt(20));
            }
        }
        return y;
    }

    private void due(String call, long got, long want) {
        Check.due("seed " + seed + " " + call, got, want);
    }

    /** Yards painted when these places are forgiven. */
    private static int forgiveAll(FenceYards y, int bits) {
        int yards = 0;
        for (int place = 0; place < 9; place++) {
            if ((bits >> place & 1) == 1) {
                yards += y.forgive(place);
            }
        }
        return yards;
    }

    private static boolean better(int bits, int size, int than, int thanSize) {
        return than == NONE || size < thanSize || size == thanSize && bits < than;
    }

    private void subsets() {
        int[] least = new int[farms + 1];
        int[] leastSize = new int[farms + 1];
        Arrays.fill(least, NONE);
        Arrays.fill(leastSize, NONE);
        int[] rich = new int[10];
        int[] richYards = new int[10];
        long[] odds = new long[farms];
        int chance = (int) (seed % 101);
        for (int bits = 0; bits < 512; bits++) {
            if ((bits & ~x.all(9)) != 0) {
                continue;
            }
            FenceYards y = made();
            int size = Integer.bitCount(bits);
            int yards = forgiveAll(y, bits);
            for (int farm = 0; farm < farms; farm++) {
                boolean done = (bits & ~x.score(farm, 1)) == 0;
                boolean white = y.farm(farm, 4) == 0;
                if (done && white && better(bits, size, least[farm], leastSize[farm])) {
                    least[farm] = bits;
                    leastSize[farm] = size;
                }
                odds[farm] += done && white ? parts(x.score(farm, 1), bits, chance) : 0;
            }
            if (y.all(7) == (1 << farms) - 1 && better(bits, size, least[farms], leastSize[farms])) {
                least[farms] = bits;
                leastSize[farms] = size;
            }
            for (int n = size; n < 10; n++) {
                boolean asMuch = yards == richYards[n] && better(bits, size, rich[n], Integer.bitCount(rich[n]));
                if (yards > richYards[n] || asMuch) {
                    rich[n] = bits;
                    richYards[n] = yards;
                }
            }
        }
        for (int farm = 0; farm < farms; farm++) {
            due("least(" + farm + ", 0)", x.least(farm, 0), least[farm]);
            due("least(" + farm + ", 1)", x.least(farm, 1), leastSize[farm]);
            due("odds(" + farm + ", " + chance + ")", x.odds(farm, chance), odds[farm]);
        }
        due("every(0)", x.every(0), least[farms]);
        due("every(1)", x.every(1), leastSize[farms]);
        for (int n = 0; n < 10; n++) {
            due("richest(" + n + ", 0)", x.richest(n, 0), rich[n]);
            due("richest(" + n + ", 1)", x.richest(n, 1), richYards[n]);
        }
    }

    private static long parts(int done, int forgiven, int chance) {
        long parts = 1000000000;
        for (int place = 0; place < 9; place++) {
            if ((done >> place & 1) == 1) {
                long some = parts * chance / 100;
                parts = (forgiven >> place & 1) == 1 ? some : parts - some;
            }
        }
        return parts;
    }

    /** All rows of digits from the least on. */
    private void pairs() {
        int rows = 1;
        for (int farm = 0; farm < farms; farm++) {
            rows *= 10;
        }
        int best = NONE;
        int bestYards = NONE;
        int[] who = new int[10];
        int[] whom = new int[10];
        int[] yards = new int[10];
        for (int place = 0; place < 9; place++) {
            who[place] = x.wrong(place, 0);
            whom[place] = x.wrong(place, 1);
            yards[place] = x.wrong(place, 3);
        }
        for (int row = 0; row < rows; row++) {
            int sum = 0;
            int painters = 0;
            int rest = row;
            for (int farm = farms - 1; farm >= 0 && sum != NONE; farm--) {
                int place = rest % 10;
                rest /= 10;
                if (place != 9) {
                    boolean can = whom[place] == farm && (painters >> who[place] & 1) == 0;
                    painters |= can ? 1 << who[place] : 0;
                    sum = can ? sum + yards[place] : NONE;
                }
            }
            if (sum > bestYards) {
                best = row;
                bestYards = sum;
            }
        }
        due("pairs(0)", x.pairs(0), best);
        due("pairs(1)", x.pairs(1), bestYards);
    }

    private static void choose(FenceYards y, int farm, int other, int choice) {
        if (choice == 1) {
            forgiveAll(y, y.score(farm, 1) & y.score(other, 0));
        }
        if (choice == 2) {
            for (int n = 9; n > 0; n--) {
                if (y.paint(farm, n) != NONE) {
                    return;
                }
            }
        }
    }

    private int gain(FenceYards y, int farm, int choice) {
        return x.farm(farm, 4) - y.farm(farm, 4) - (choice == 2 ? 2 : 0);
    }

    private void games() {
        int one = (int) (seed % farms);
        int other = (int) ((one + 1 + seed / 7 % (farms - 1)) % farms);
        int[][] first = new int[3][3];
        int[][] second = new int[3][3];
        for (int i = 0; i < 9; i++) {
            FenceYards y = made();
            choose(y, one, other, i / 3);
            choose(y, other, one, i % 3);
            first[i / 3][i % 3] = gain(y, one, i / 3);
            second[i / 3][i % 3] = gain(y, other, i % 3);
            due("game first " + i, x.game(one, other, i / 3, i % 3, 0), first[i / 3][i % 3]);
            due("game second " + i, x.game(one, other, i / 3, i % 3, 1), second[i / 3][i % 3]);
        }
        int rests = 0;
        for (int i = 0; i < 9; i++) {
            int a = i / 3;
            int b = i % 3;
            int mostFirst = Math.max(first[0][b], Math.max(first[1][b], first[2][b]));
            int mostSecond = Math.max(second[a][0], Math.max(second[a][1], second[a][2]));
            if (first[a][b] == mostFirst && second[a][b] == mostSecond) {
                due("rest " + rests, x.rests(one, other, rests), 10 * a + b);
                rests++;
            }
        }
        due("rests", x.rests(one, other, NONE), rests);
    }

    /** Ways between farms, by letting each farm lie between. */
    private void ties() {
        int[][] ways = new int[farms][farms];
        for (int[] row : ways) {
            Arrays.fill(row, 99);
        }
        for (int place = 0; place < 9; place++) {
            if (x.wrong(place, 0) != NONE) {
                ways[x.wrong(place, 0)][x.wrong(place, 1)] = 1;
            }
        }
        for (int between = 0; between < farms; between++) {
            for (int from = 0; from < farms; from++) {
                for (int to = 0; to < farms; to++) {
                    ways[from][to] = Math.min(ways[from][to], ways[from][between] + ways[between][to]);
                }
            }
        }
        int ring = 99;
        for (int from = 0; from < farms; from++) {
            ring = Math.min(ring, ways[from][from]);
            for (int to = 0; to < farms; to++) {
                int want = from == to ? 0 : ways[from][to];
                due("chain(" + from + ", " + to + ")", x.chain(from, to), want >= 99 ? NONE : want);
            }
        }
        due("ring()", x.ring(), ring >= 99 ? NONE : ring);
    }

    private void fading() {
        FenceYards y = made();
        int[] wants = new int[farms];
        Arrays.fill(wants, NONE);
        for (int days = 0; days <= 120; days++) {
            for (int farm = 0; farm < farms; farm++) {
                if (wants[farm] == NONE && y.farm(farm, 2) + y.farm(farm, 3) == 0) {
                    wants[farm] = days;
                }
            }
            y.day();
        }
        for (int farm = 0; farm < farms; farm++) {
            due("fades(" + farm + ")", x.fades(farm), wants[farm]);
        }
    }
}
