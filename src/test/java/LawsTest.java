import java.util.Random;

/** What LAWS are worth: by hand, and by random sums whose value is reckoned along with their text. */
public final class LawsTest {
    private static final int BOUND = 1000000;

    public static void main(String[] args) {
        byHand();
        letters();
        withoutLaw();
        for (int seed = 0; seed < 3000; seed++) {
            byRandom(new Random(seed));
        }
        Check.finish();
    }

    /** What a wrong is worth at a bare fence of 40 yards, k 4, g 7, lime 90. */
    private static void dueWorth(String law, int want) {
        FenceYards x = Check.village("sl90;f;fy40g7;wk4");
        Check.rule(x, law);
        Check.due("worth of " + law, x.wrong(0, 3), want);
    }

    private static void byHand() {
        dueWorth("y:7", 7);
        dueWorth("y:41", 40);
        dueWorth("y:3-4", 0);
        dueWorth("y:2+3*4", 14);
        dueWorth("y:[2+3]*4", 20);
        dueWorth("y:20-5-3", 12);
        dueWorth("y:40/4/5", 2);
        dueWorth("y:7/2*2", 6);
        dueWorth("y:20+[0-7]/2", 17);
        dueWorth("y:20+7/[0-2]", 17);
        dueWorth("y:9/0+3", 3);
        dueWorth("y:9999*9999/9999", 40);
        dueWorth("y:9999*9999/9999-90", 10);
        dueWorth("y:[0-9999]*9999+9999*100+120", 20);
        dueWorth("y:9999*9999-9999*9999+5", 5);
        dueWorth("y:9999*9999+9999-9999*100", 40);
        dueWorth("y:9999*9999+9999-9999*100-90", 10);
        dueWorth("y:k=4?11;y:12", 11);
        dueWorth("y:k=5?11;y:12", 12);
        dueWorth("y:k=5?11", 0);
        dueWorth("y:k=5?11;y:k<4?12;y:k>4?13", 0);
        dueWorth("y:k=5?11;y:k<5?12;y:k>3?13", 12);
        dueWorth("y:3;y:k=4?9", 3);
        dueWorth("y:!k=4?1;y:2", 2);
        dueWorth("y:!!k=4?1;y:2", 1);
        dueWorth("y:k=5|g=7?1;y:2", 1);
        dueWorth("y:k=5&g=7?1;y:2", 2);
        dueWorth("y:k=4|k=5&g=0?1;y:2", 1);
        dueWorth("y:(k=4|k=5)&g=0?1;y:2", 2);
        dueWorth("y:!(k=4&g=0)&g=7?1;y:2", 1);
        dueWorth("y:!k=5&g=0?1;y:2", 2);
        dueWorth("y:k+1=10/2?1;y:2", 1);
        dueWorth("y:[k]*2>g?1;y:2", 1);
        dueWorth("y:0-1<0?1;y:2", 1);
    }

    private static void letters() {
        FenceYards x = Check.village("sl80c50;fy30;fy40g7;wk4;wk2;wa1v0k6;wk9");
        Check.rule(x, "y:n*10+5");
        Check.due("n is 0 at first", x.forgive(0), 5);
        Check.due("n counts who did it", x.wrong(1, 3), 15);
        Check.due("n of another one", x.wrong(2, 3), 5);
        Check.rule(x, "y:l-50");
        Check.due("l is lime now", x.wrong(2, 3), 25);
        Check.rule(x, "y:b/2");
        Check.due("b is bare at whom it was done to", x.wrong(1, 3), 17);
        Check.due("b at another farm", x.wrong(2, 3), 15);
        Check.rule(x, "y:d*3+k+g");
        Check.due("d is 0 at first", x.wrong(1, 3), 9);
        x.day();
        x.day();
        Check.due("d is the day", x.wrong(1, 3), 15);
        Check.due("g is of whom it was done to", x.wrong(2, 3), 15);
        Check.due("k is how heavy", x.wrong(3, 3), 22);
    }

    private static void withoutLaw() {
        for (int heavy = 1; heavy <= 9; heavy++) {
            for (int grudge = 0; grudge <= 9; grudge++) {
                FenceYards x = Check.village("f;fy40g" + grudge + ";wk" + heavy);
                Check.due("by none k" + heavy + " g" + grudge, x.wrong(0, 3), 2 * heavy + 1 - grudge / 3);
            }
        }
        FenceYards x = Check.village("sl5;fy4;fy30;wk9;wa1v0k9");
        Check.due("no more than lime", x.wrong(0, 3), 5);
        Check.due("no more than is bare", x.wrong(1, 3), 4);
    }

    private static void byRandom(Random random) {
        StringBuilder sum = new StringBuilder();
        int value = sum(random, sum, 0);
        StringBuilder condition = new StringBuilder();
        boolean holds = condition(random, condition, 0);
        String law = "y:[" + sum + "]=[" + written(value) + "]?3;y:5";
        if (law.length() <= 240) {
            dueWorth(law, 3);
        }
        law = "y:" + condition + "?3;y:5";
        if (law.length() <= 240) {
            dueWorth(law, holds ? 3 : 5);
        }
    }

    private static String written(int value) {
        int size = Math.abs(value);
        return (value < 0 ? "0-" : "0+") + size / 1000 + "*1000" + (value < 0 ? "-" : "+") + size % 1000;
    }

    private static int held(long value) {
        return (int) Math.max(-BOUND, Math.min(BOUND, value));
    }

    private static int sum(Random random, StringBuilder text, int depth) {
        int value = term(random, text, depth);
        while (random.nextInt(3) == 0) {
            boolean plus = random.nextBoolean();
            text.append(plus ? '+' : '-');
            int more = term(random, text, depth);
            value = held(plus ? (long) value + more : (long) value - more);
        }
        return value;
    }

    private static int term(Random random, StringBuilder text, int depth) {
        int value = atom(random, text, depth);
        while (random.nextInt(3) == 0) {
            boolean times = random.nextBoolean();
            text.append(times ? '*' : '/');
            int more = atom(random, text, depth);
            value = times ? held((long) value * more) : more == 0 ? 0 : value / more;
        }
        return value;
    }

    private static int atom(Random random, StringBuilder text, int depth) {
        if (depth < 4 && random.nextInt(3) == 0) {
            text.append(" [");
            int value = sum(random, text, depth + 1);
            text.append("]");
            return value;
        }
        if (random.nextInt(3) == 0) {
            int letter = random.nextInt(6);
            text.append("kgnbld".charAt(letter));
            return new int[] {4, 7, 0, 40, 90, 0}[letter];
        }
        int value = random.nextInt(random.nextBoolean() ? 10 : 10000);
        text.append(value);
        return value;
    }

    private static boolean condition(Random random, StringBuilder text, int depth) {
        boolean holds = truth(random, text, depth);
        while (random.nextInt(3) == 0) {
            text.append("|");
            holds |= truth(random, text, depth);
        }
        return holds;
    }

    private static boolean truth(Random random, StringBuilder text, int depth) {
        boolean holds = unit(random, text, depth);
        while (random.nextInt(3) == 0) {
            text.append("&");
            holds &= unit(random, text, depth);
        }
        return holds;
    }

    private static boolean unit(Random random, StringBuilder text, int depth) {
        if (depth < 4 && random.nextInt(4) == 0) {
            text.append("!");
            return !unit(random, text, depth + 1);
        }
        if (depth < 4 && random.nextInt(4) == 0) {
            text.append("(");
            boolean holds = condition(random, text, depth + 1);
            text.append(")");
            return holds;
        }
        int a = sum(random, text, depth + 2);
        int sign = random.nextInt(3);
        text.append("=<>".charAt(sign));
        int b = sum(random, text, depth + 2);
        return sign == 0 ? a == b : sign == 1 ? a < b : a > b;
    }
}
